theorem hi_X9_counts_X9 : ∀ w ∈ u_ws RX9 TX9 36, w ∈ wsX9_counts := by decide +kernel
theorem fl_X9_counts_145 : Cond.fieldLink RX9 145 "ArcOrderModel" "items" "I" ∈ wsX9_counts := by decide +kernel
theorem fl_X9_counts_53 : Cond.fieldLink RX9 53 "ArcOrderModel" "ways" "[J" ∈ wsX9_counts := by decide +kernel
abbrev rm_X9_counts : Room := { frames := 3, cells := 0, slots := 0, locals := 66 }
set_option maxHeartbeats 4000000 in
set_option maxRecDepth 100000 in
theorem k_X9_counts_33_ok {G : GX} {cy : Nat → ClassId} (am : Nat → Nat)  (x1 : Int32) (x2 : Int32) (Mm : ModS) (m_s : (Nat → Int32)) {out : (Nat → Int64)} (F : Fx G cX9_counts wsX9_counts RX9 cy 4 (rm_X9_counts)) (Rq : Rx G "counts" none none (fun z => z = [(sMod cy am Mm), (sI cy (am 12) 24 m_s), (sJ cy (am 31) 4096 out)]) 0 0) (ke : (Nat → Int64) → Option ((Nat → Int64))) (hke : ∀  (m_ways : (Nat → Int64)), ke m_ways = some out → Go G 0 0 79 [(0, .ref (am 0)), (1, .int x1), (2, .int x2)] [] [(sMod cy am Mm), (sI cy (am 12) 24 m_s), (sJ cy (am 31) 4096 m_ways)]) : ∀ (n : Nat) (x3 : Int32) (m_ways : (Nat → Int64)), k_X9_counts_33 x1 x2 Mm m_s ke n x3 m_ways = some out → Go G 0 0 33 [(0, .ref (am 0)), (1, .int x1), (2, .int x2), (3, .int x3)] [] [(sMod cy am Mm), (sI cy (am 12) 24 m_s), (sJ cy (am 31) 4096 m_ways)] := by
  intro n
  induction n with
  | zero =>
    intro x3 m_ways h
    exact nosome h
  | succ n ih =>
    intro x3 m_ways h
    rw [k_X9_counts_33.eq_2] at h
    refine g_iload_n F dX9_counts_33 rfl 3 rfl ?_
    refine g_aload_n F dX9_counts_34 rfl 0 rfl ?_
    refine g_get F (C := RX9) (T := TX9) (N := 36) (ci := 9) (v := .int (Mm 8)) hi_X9_counts_X9 0 0 8 dX9_counts_35 rfl rfl (by decide) fl_X9_counts_145 rfl ?_
    refine g_icmp_ge F 79 h dX9_counts_38 (by decide) (fun h => ?_) (fun h => ?_)
    · refine Go.sub (lv' := [(0, .ref (am 0)), (1, .int x1), (2, .int x2)]) [0, 1, 2] rfl ?_
      exact hke m_ways h
    · refine g_aload_n F dX9_counts_41 rfl 0 rfl ?_
      refine g_get F (C := RX9) (T := TX9) (N := 36) (ci := 9) (v := .ref (am 31)) hi_X9_counts_X9 0 0 30 dX9_counts_42 rfl rfl (by decide) fl_X9_counts_53 rfl ?_
      refine g_iload_n F dX9_counts_45 rfl 2 rfl ?_
      refine g_dup2 F dX9_counts_46 rfl rfl ?_
      refine g_laload F h 2 0 dX9_counts_47 rfl (fun h => ?_)
      refine g_aload_n F dX9_counts_48 rfl 0 rfl ?_
      refine g_iload_n F dX9_counts_49 rfl 2 rfl ?_
      refine g_iload_n F dX9_counts_50 rfl 3 rfl ?_
      obtain ⟨r1, hr1, h⟩ := bnd h
      refine g_cV F [.int x2, .int x3] 0 0 (ok_X9_canNext (gl G) (gD G) cy am Mm m_s x2 x3 r1 hr1) dX9_counts_51 rfl rfl gX9_counts_X9_canNext rfl ⟨rfl, cd_X9_canNext⟩ (by decide) rfl (Nat.le_of_ble_eq_true rfl) [0, 1] (by decide) rfl rfl (sg' := [(sMod cy am Mm), (sI cy (am 12) 24 m_s), (sJ cy (am 31) 4096 m_ways)]) (st' := [.int r1, .long (m_ways (x2).toNatClampNeg), .int x2, .ref (am 31)]) rfl rfl ?_
      refine g_if_eq F 70 h dX9_counts_54 (by decide) (fun h => ?_) (fun h => ?_)
      · refine g_lconst F (v := (0 : Int64)) dX9_counts_70 (by decide) ?_
        refine g_ladd F dX9_counts_71 ?_
        refine g_lastore F h (sg' := [(sMod cy am Mm), (sI cy (am 12) 24 m_s), (sJ cy (am 31) 4096 (vp_updL m_ways (x2).toNatClampNeg ((m_ways (x2).toNatClampNeg) + (0 : Int64))))]) 2 0 dX9_counts_72 rfl rfl (fun h => ?_)
        refine g_iinc F (v := (x3 + 1)) (lv' := [(3, .int (x3 + 1)), (0, .ref (am 0)), (1, .int x1), (2, .int x2)]) dX9_counts_73 3 rfl rfl (by decide) rfl ?_
        refine g_goto F 33 dX9_counts_76 (by decide) ?_
        refine Go.sub (lv' := [(0, .ref (am 0)), (1, .int x1), (2, .int x2), (3, .int (x3 + 1))]) [1, 2, 3, 0] rfl ?_
        exact ih (x3 + 1) (vp_updL m_ways (x2).toNatClampNeg ((m_ways (x2).toNatClampNeg) + (0 : Int64))) h
      · refine g_aload_n F dX9_counts_57 rfl 0 rfl ?_
        refine g_get F (C := RX9) (T := TX9) (N := 36) (ci := 9) (v := .ref (am 31)) hi_X9_counts_X9 0 0 30 dX9_counts_58 rfl rfl (by decide) fl_X9_counts_53 rfl ?_
        refine g_iload_n F dX9_counts_61 rfl 2 rfl ?_
        refine g_iconst F (v := (1 : Int32)) dX9_counts_62 (by decide) ?_
        refine g_iload_n F dX9_counts_63 rfl 3 rfl ?_
        refine g_ishl F dX9_counts_64 ?_
        refine g_ior F dX9_counts_65 ?_
        refine g_laload F h 2 0 dX9_counts_66 rfl (fun h => ?_)
        refine g_goto F 71 dX9_counts_67 (by decide) ?_
        refine g_ladd F dX9_counts_71 ?_
        refine g_lastore F h (sg' := [(sMod cy am Mm), (sI cy (am 12) 24 m_s), (sJ cy (am 31) 4096 (vp_updL m_ways (x2).toNatClampNeg ((m_ways (x2).toNatClampNeg) + (m_ways ((x2 ||| ((1 : Int32) <<< (x3 &&& 31)))).toNatClampNeg))))]) 2 0 dX9_counts_72 rfl rfl (fun h => ?_)
        refine g_iinc F (v := (x3 + 1)) (lv' := [(3, .int (x3 + 1)), (0, .ref (am 0)), (1, .int x1), (2, .int x2)]) dX9_counts_73 3 rfl rfl (by decide) rfl ?_
        refine g_goto F 33 dX9_counts_76 (by decide) ?_
        refine Go.sub (lv' := [(0, .ref (am 0)), (1, .int x1), (2, .int x2), (3, .int (x3 + 1))]) [1, 2, 3, 0] rfl ?_
        exact ih (x3 + 1) (vp_updL m_ways (x2).toNatClampNeg ((m_ways (x2).toNatClampNeg) + (m_ways ((x2 ||| ((1 : Int32) <<< (x3 &&& 31)))).toNatClampNeg))) h
set_option maxHeartbeats 4000000 in
set_option maxRecDepth 100000 in
theorem k_X9_counts_11_ok {G : GX} {cy : Nat → ClassId} (am : Nat → Nat)  (x1 : Int32) (Mm : ModS) (m_s : (Nat → Int32)) {out : (Nat → Int64)} (F : Fx G cX9_counts wsX9_counts RX9 cy 4 (rm_X9_counts)) (Rq : Rx G "counts" none none (fun z => z = [(sMod cy am Mm), (sI cy (am 12) 24 m_s), (sJ cy (am 31) 4096 out)]) 0 0) (ke : (Nat → Int64) → Option ((Nat → Int64))) (hke : ∀  (m_ways : (Nat → Int64)), ke m_ways = some out → Go G 0 0 85 [] [] [(sMod cy am Mm), (sI cy (am 12) 24 m_s), (sJ cy (am 31) 4096 m_ways)]) : ∀ (n : Nat) (x2 : Int32) (m_ways : (Nat → Int64)), k_X9_counts_11 x1 Mm m_s ke n x2 m_ways = some out → Go G 0 0 11 [(0, .ref (am 0)), (1, .int x1), (2, .int x2)] [] [(sMod cy am Mm), (sI cy (am 12) 24 m_s), (sJ cy (am 31) 4096 m_ways)] := by
  intro n
  induction n with
  | zero =>
    intro x2 m_ways h
    exact nosome h
  | succ n ih =>
    intro x2 m_ways h
    rw [k_X9_counts_11.eq_2] at h
    refine g_iload_n F dX9_counts_11 rfl 2 rfl ?_
    refine g_if_lt F 85 h dX9_counts_12 (by decide) (fun h => ?_) (fun h => ?_)
    · refine Go.sub (lv' := []) [] rfl ?_
      exact hke m_ways h
    · refine g_aload_n F dX9_counts_15 rfl 0 rfl ?_
      refine g_get F (C := RX9) (T := TX9) (N := 36) (ci := 9) (v := .ref (am 31)) hi_X9_counts_X9 0 0 30 dX9_counts_16 rfl rfl (by decide) fl_X9_counts_53 rfl ?_
      refine g_iload_n F dX9_counts_19 rfl 2 rfl ?_
      refine g_iload_n F dX9_counts_20 rfl 2 rfl ?_
      refine g_iload_n F dX9_counts_21 rfl 1 rfl ?_
      refine g_icmp_ne F 29 h dX9_counts_22 (by decide) (fun h => ?_) (fun h => ?_)
      · refine g_lconst F (v := (0 : Int64)) dX9_counts_29 (by decide) ?_
        refine g_lastore F h (sg' := [(sMod cy am Mm), (sI cy (am 12) 24 m_s), (sJ cy (am 31) 4096 (vp_updL m_ways (x2).toNatClampNeg (0 : Int64)))]) 2 0 dX9_counts_30 rfl rfl (fun h => ?_)
        refine g_iconst F (v := (0 : Int32)) dX9_counts_31 (by decide) ?_
        refine g_istore_n F (lv' := [(3, .int (0 : Int32)), (0, .ref (am 0)), (1, .int x1), (2, .int x2)]) dX9_counts_32 rfl (by decide) rfl ?_
        refine Go.sub (lv' := [(0, .ref (am 0)), (1, .int x1), (2, .int x2), (3, .int (0 : Int32))]) [1, 2, 3, 0] rfl ?_
        refine k_X9_counts_33_ok am x1 x2 Mm m_s F Rq _ (fun m_ways_2 h => ?_) _ (0 : Int32) (vp_updL m_ways (x2).toNatClampNeg (0 : Int64)) h
        refine g_iinc F (v := (x2 + (-1))) (lv' := [(2, .int (x2 + (-1))), (0, .ref (am 0)), (1, .int x1)]) dX9_counts_79 2 rfl rfl (by decide) rfl ?_
        refine g_goto F 11 dX9_counts_82 (by decide) ?_
        refine Go.sub (lv' := [(0, .ref (am 0)), (1, .int x1), (2, .int (x2 + (-1)))]) [1, 2, 0] rfl ?_
        exact ih (x2 + (-1)) m_ways_2 h
      · refine g_lconst F (v := (1 : Int64)) dX9_counts_25 (by decide) ?_
        refine g_goto F 30 dX9_counts_26 (by decide) ?_
        refine g_lastore F h (sg' := [(sMod cy am Mm), (sI cy (am 12) 24 m_s), (sJ cy (am 31) 4096 (vp_updL m_ways (x2).toNatClampNeg (1 : Int64)))]) 2 0 dX9_counts_30 rfl rfl (fun h => ?_)
        refine g_iconst F (v := (0 : Int32)) dX9_counts_31 (by decide) ?_
        refine g_istore_n F (lv' := [(3, .int (0 : Int32)), (0, .ref (am 0)), (1, .int x1), (2, .int x2)]) dX9_counts_32 rfl (by decide) rfl ?_
        refine Go.sub (lv' := [(0, .ref (am 0)), (1, .int x1), (2, .int x2), (3, .int (0 : Int32))]) [1, 2, 3, 0] rfl ?_
        refine k_X9_counts_33_ok am x1 x2 Mm m_s F Rq _ (fun m_ways_4 h => ?_) _ (0 : Int32) (vp_updL m_ways (x2).toNatClampNeg (1 : Int64)) h
        refine g_iinc F (v := (x2 + (-1))) (lv' := [(2, .int (x2 + (-1))), (0, .ref (am 0)), (1, .int x1)]) dX9_counts_79 2 rfl rfl (by decide) rfl ?_
        refine g_goto F 11 dX9_counts_82 (by decide) ?_
        refine Go.sub (lv' := [(0, .ref (am 0)), (1, .int x1), (2, .int (x2 + (-1)))]) [1, 2, 0] rfl ?_
        exact ih (x2 + (-1)) m_ways_4 h
set_option maxHeartbeats 4000000 in
set_option maxRecDepth 100000 in
theorem ok_X9_counts (l : Launch) (D : va_G) (cy : Nat → ClassId) (am : Nat → Nat)  (Mm : ModS) (m_s : (Nat → Int32)) (m_ways : (Nat → Int64))  (out : (Nat → Int64)) (h : f_X9_counts Mm m_s m_ways = some out) : OK l D cy yX9_counts wsX9_counts rm_X9_counts [.ref (am 0)] [(sMod cy am Mm), (sI cy (am 12) 24 m_s), (sJ cy (am 31) 4096 m_ways)] none [(sMod cy am Mm), (sI cy (am 12) 24 m_s), (sJ cy (am 31) 4096 out)] := by
  refine OKx.of (cc := cX9_counts) (maxL := 4) (ret := none) (by decide) rfl (Nat.le_of_ble_eq_true rfl) (fun G F Rq => ?_)
  show Go G 0 0 0 [(0, .ref (am 0))] [] [(sMod cy am Mm), (sI cy (am 12) 24 m_s), (sJ cy (am 31) 4096 m_ways)]
  replace F : Fx G cX9_counts wsX9_counts RX9 cy 4 (rm_X9_counts) := F
  replace Rq : Rx G "counts" none none (fun z => z = [(sMod cy am Mm), (sI cy (am 12) 24 m_s), (sJ cy (am 31) 4096 out)]) 0 0 := Rq
  unfold f_X9_counts at h
  refine g_iconst F (v := (1 : Int32)) dX9_counts_0 (by decide) ?_
  refine g_aload_n F dX9_counts_1 rfl 0 rfl ?_
  refine g_get F (C := RX9) (T := TX9) (N := 36) (ci := 9) (v := .int (Mm 8)) hi_X9_counts_X9 0 0 8 dX9_counts_2 rfl rfl (by decide) fl_X9_counts_145 rfl ?_
  refine g_ishl F dX9_counts_5 ?_
  refine g_iconst F (v := (1 : Int32)) dX9_counts_6 (by decide) ?_
  refine g_isub F dX9_counts_7 ?_
  refine g_istore_n F (lv' := [(1, .int (((1 : Int32) <<< ((Mm 8) &&& 31)) - (1 : Int32))), (0, .ref (am 0))]) dX9_counts_8 rfl (by decide) rfl ?_
  refine g_iload_n F dX9_counts_9 rfl 0 rfl ?_
  refine g_istore_n F (lv' := [(2, .int (((1 : Int32) <<< ((Mm 8) &&& 31)) - (1 : Int32))), (1, .int (((1 : Int32) <<< ((Mm 8) &&& 31)) - (1 : Int32))), (0, .ref (am 0))]) dX9_counts_10 rfl (by decide) rfl ?_
  refine Go.sub (lv' := [(0, .ref (am 0)), (1, .int (((1 : Int32) <<< ((Mm 8) &&& 31)) - (1 : Int32))), (2, .int (((1 : Int32) <<< ((Mm 8) &&& 31)) - (1 : Int32)))]) [2, 1, 0] rfl ?_
  refine k_X9_counts_11_ok am (((1 : Int32) <<< ((Mm 8) &&& 31)) - (1 : Int32)) Mm m_s F Rq _ (fun m_ways_5 h => ?_) _ (((1 : Int32) <<< ((Mm 8) &&& 31)) - (1 : Int32)) m_ways h
  obtain rfl := Option.some.inj h
  exact g_vret F Rq rfl dX9_counts_85
theorem hi_X9_orderOf_X9 : ∀ w ∈ u_ws RX9 TX9 36, w ∈ wsX9_orderOf := by decide +kernel
theorem fl_X9_orderOf_145 : Cond.fieldLink RX9 145 "ArcOrderModel" "items" "I" ∈ wsX9_orderOf := by decide +kernel
theorem fl_X9_orderOf_53 : Cond.fieldLink RX9 53 "ArcOrderModel" "ways" "[J" ∈ wsX9_orderOf := by decide +kernel
theorem fl_X9_orderOf_60 : Cond.fieldLink RX9 60 "ArcOrderModel" "order" "[I" ∈ wsX9_orderOf := by decide +kernel
abbrev rm_X9_orderOf : Room := { frames := 3, cells := 0, slots := 0, locals := 66 }
set_option maxHeartbeats 4000000 in
set_option maxRecDepth 100000 in
theorem k_X9_orderOf_20_ok {G : GX} {cy : Nat → ClassId} (am : Nat → Nat)  (x5 : Int32) (x6 : Int32) (Mm : ModS) (m_s : (Nat → Int32)) (m_ways : (Nat → Int64)) (m_order : (Nat → Int32)) {out : (Nat → Int32)} (F : Fx G cX9_orderOf wsX9_orderOf RX9 cy 8 (rm_X9_orderOf)) (Rq : Rx G "orderOf" none none (fun z => z = [(sMod cy am Mm), (sI cy (am 12) 24 m_s), (sJ cy (am 31) 4096 m_ways), (sI cy (am 33) 12 out)]) 0 0) (ke : Int64 → Int32 → Option ((Nat → Int32))) (hke : ∀ (x3 : Int64) (x7 : Int32) , ke x3 x7 = some out → Go G 0 0 84 [(0, .ref (am 0)), (3, .long x3), (5, .int x5), (6, .int x6), (7, .int x7)] [] [(sMod cy am Mm), (sI cy (am 12) 24 m_s), (sJ cy (am 31) 4096 m_ways), (sI cy (am 33) 12 m_order)]) : ∀ (n : Nat) (x3 : Int64) (x7 : Int32) , k_X9_orderOf_20 x5 x6 Mm m_s m_ways m_order ke n x3 x7 = some out → Go G 0 0 20 [(0, .ref (am 0)), (3, .long x3), (5, .int x5), (6, .int x6), (7, .int x7)] [] [(sMod cy am Mm), (sI cy (am 12) 24 m_s), (sJ cy (am 31) 4096 m_ways), (sI cy (am 33) 12 m_order)] := by
  intro n
  induction n with
  | zero =>
    intro x3 x7 h
    exact nosome h
  | succ n ih =>
    intro x3 x7 h
    rw [k_X9_orderOf_20.eq_2] at h
    refine g_aload_n F dX9_orderOf_20 rfl 0 rfl ?_
    refine g_iload F dX9_orderOf_21 2 rfl ?_
    refine g_iload F dX9_orderOf_23 4 rfl ?_
    obtain ⟨r1, hr1, h⟩ := bnd h
    refine g_cV F [.int x5, .int x7] 0 0 (ok_X9_canNext (gl G) (gD G) cy am Mm m_s x5 x7 r1 hr1) dX9_orderOf_25 rfl rfl gX9_orderOf_X9_canNext rfl ⟨rfl, cd_X9_canNext⟩ (by decide) rfl (Nat.le_of_ble_eq_true rfl) [0, 1] (by decide) rfl rfl (sg' := [(sMod cy am Mm), (sI cy (am 12) 24 m_s), (sJ cy (am 31) 4096 m_ways), (sI cy (am 33) 12 m_order)]) (st' := [.int r1]) rfl rfl ?_
    refine g_if_eq F 48 h dX9_orderOf_28 (by decide) (fun h => ?_) (fun h => ?_)
    · refine g_lload_n F dX9_orderOf_48 rfl 1 rfl ?_
      refine g_aload_n F dX9_orderOf_49 rfl 0 rfl ?_
      refine g_iload F dX9_orderOf_50 2 rfl ?_
      refine g_iload F dX9_orderOf_52 4 rfl ?_
      obtain ⟨r2, hr2, h⟩ := bnd h
      refine g_cV F [.int x5, .int x7] 0 0 (ok_X9_canNext (gl G) (gD G) cy am Mm m_s x5 x7 r2 hr2) dX9_orderOf_54 rfl rfl gX9_orderOf_X9_canNext rfl ⟨rfl, cd_X9_canNext⟩ (by decide) rfl (Nat.le_of_ble_eq_true rfl) [0, 1] (by decide) rfl rfl (sg' := [(sMod cy am Mm), (sI cy (am 12) 24 m_s), (sJ cy (am 31) 4096 m_ways), (sI cy (am 33) 12 m_order)]) (st' := [.int r2, .long x3]) rfl rfl ?_
      refine g_if_eq F 75 h dX9_orderOf_57 (by decide) (fun h => ?_) (fun h => ?_)
      · refine g_lconst F (v := (0 : Int64)) dX9_orderOf_75 (by decide) ?_
        refine g_lsub F dX9_orderOf_76 ?_
        refine g_lstore_n F (lv' := [(3, .long (x3 - (0 : Int64))), (0, .ref (am 0)), (5, .int x5), (6, .int x6), (7, .int x7)]) dX9_orderOf_77 rfl (by decide) rfl ?_
        refine g_iinc F (v := (x7 + 1)) (lv' := [(7, .int (x7 + 1)), (3, .long (x3 - (0 : Int64))), (0, .ref (am 0)), (5, .int x5), (6, .int x6)]) dX9_orderOf_78 4 rfl rfl (by decide) rfl ?_
        refine g_goto F 20 dX9_orderOf_81 (by decide) ?_
        refine Go.sub (lv' := [(0, .ref (am 0)), (3, .long (x3 - (0 : Int64))), (5, .int x5), (6, .int x6), (7, .int (x7 + 1))]) [2, 1, 3, 4, 0] rfl ?_
        exact ih (x3 - (0 : Int64)) (x7 + 1) h
      · refine g_aload_n F dX9_orderOf_60 rfl 0 rfl ?_
        refine g_get F (C := RX9) (T := TX9) (N := 36) (ci := 9) (v := .ref (am 31)) hi_X9_orderOf_X9 0 0 30 dX9_orderOf_61 rfl rfl (by decide) fl_X9_orderOf_53 rfl ?_
        refine g_iload F dX9_orderOf_64 2 rfl ?_
        refine g_iconst F (v := (1 : Int32)) dX9_orderOf_66 (by decide) ?_
        refine g_iload F dX9_orderOf_67 4 rfl ?_
        refine g_ishl F dX9_orderOf_69 ?_
        refine g_ior F dX9_orderOf_70 ?_
        refine g_laload F h 2 0 dX9_orderOf_71 rfl (fun h => ?_)
        refine g_goto F 76 dX9_orderOf_72 (by decide) ?_
        refine g_lsub F dX9_orderOf_76 ?_
        refine g_lstore_n F (lv' := [(3, .long (x3 - (m_ways ((x5 ||| ((1 : Int32) <<< (x7 &&& 31)))).toNatClampNeg))), (0, .ref (am 0)), (5, .int x5), (6, .int x6), (7, .int x7)]) dX9_orderOf_77 rfl (by decide) rfl ?_
        refine g_iinc F (v := (x7 + 1)) (lv' := [(7, .int (x7 + 1)), (3, .long (x3 - (m_ways ((x5 ||| ((1 : Int32) <<< (x7 &&& 31)))).toNatClampNeg))), (0, .ref (am 0)), (5, .int x5), (6, .int x6)]) dX9_orderOf_78 4 rfl rfl (by decide) rfl ?_
        refine g_goto F 20 dX9_orderOf_81 (by decide) ?_
        refine Go.sub (lv' := [(0, .ref (am 0)), (3, .long (x3 - (m_ways ((x5 ||| ((1 : Int32) <<< (x7 &&& 31)))).toNatClampNeg))), (5, .int x5), (6, .int x6), (7, .int (x7 + 1))]) [2, 1, 3, 4, 0] rfl ?_
        exact ih (x3 - (m_ways ((x5 ||| ((1 : Int32) <<< (x7 &&& 31)))).toNatClampNeg)) (x7 + 1) h
    · refine g_lload_n F dX9_orderOf_31 rfl 1 rfl ?_
      refine g_aload_n F dX9_orderOf_32 rfl 0 rfl ?_
      refine g_get F (C := RX9) (T := TX9) (N := 36) (ci := 9) (v := .ref (am 31)) hi_X9_orderOf_X9 0 0 30 dX9_orderOf_33 rfl rfl (by decide) fl_X9_orderOf_53 rfl ?_
      refine g_iload F dX9_orderOf_36 2 rfl ?_
      refine g_iconst F (v := (1 : Int32)) dX9_orderOf_38 (by decide) ?_
      refine g_iload F dX9_orderOf_39 4 rfl ?_
      refine g_ishl F dX9_orderOf_41 ?_
      refine g_ior F dX9_orderOf_42 ?_
      refine g_laload F h 2 0 dX9_orderOf_43 rfl (fun h => ?_)
      refine g_lcmp F dX9_orderOf_44 ?_
      refine g_if_lt F 84 h dX9_orderOf_45 (by decide) (fun h => ?_) (fun h => ?_)
      · refine Go.sub (lv' := [(0, .ref (am 0)), (3, .long x3), (5, .int x5), (6, .int x6), (7, .int x7)]) [0, 1, 2, 3, 4] rfl ?_
        exact hke x3 x7 h
      · refine g_lload_n F dX9_orderOf_48 rfl 1 rfl ?_
        refine g_aload_n F dX9_orderOf_49 rfl 0 rfl ?_
        refine g_iload F dX9_orderOf_50 2 rfl ?_
        refine g_iload F dX9_orderOf_52 4 rfl ?_
        obtain ⟨r3, hr3, h⟩ := bnd h
        refine g_cV F [.int x5, .int x7] 0 0 (ok_X9_canNext (gl G) (gD G) cy am Mm m_s x5 x7 r3 hr3) dX9_orderOf_54 rfl rfl gX9_orderOf_X9_canNext rfl ⟨rfl, cd_X9_canNext⟩ (by decide) rfl (Nat.le_of_ble_eq_true rfl) [0, 1] (by decide) rfl rfl (sg' := [(sMod cy am Mm), (sI cy (am 12) 24 m_s), (sJ cy (am 31) 4096 m_ways), (sI cy (am 33) 12 m_order)]) (st' := [.int r3, .long x3]) rfl rfl ?_
        refine g_if_eq F 75 h dX9_orderOf_57 (by decide) (fun h => ?_) (fun h => ?_)
        · refine g_lconst F (v := (0 : Int64)) dX9_orderOf_75 (by decide) ?_
          refine g_lsub F dX9_orderOf_76 ?_
          refine g_lstore_n F (lv' := [(3, .long (x3 - (0 : Int64))), (0, .ref (am 0)), (5, .int x5), (6, .int x6), (7, .int x7)]) dX9_orderOf_77 rfl (by decide) rfl ?_
          refine g_iinc F (v := (x7 + 1)) (lv' := [(7, .int (x7 + 1)), (3, .long (x3 - (0 : Int64))), (0, .ref (am 0)), (5, .int x5), (6, .int x6)]) dX9_orderOf_78 4 rfl rfl (by decide) rfl ?_
          refine g_goto F 20 dX9_orderOf_81 (by decide) ?_
          refine Go.sub (lv' := [(0, .ref (am 0)), (3, .long (x3 - (0 : Int64))), (5, .int x5), (6, .int x6), (7, .int (x7 + 1))]) [2, 1, 3, 4, 0] rfl ?_
          exact ih (x3 - (0 : Int64)) (x7 + 1) h
        · refine g_aload_n F dX9_orderOf_60 rfl 0 rfl ?_
          refine g_get F (C := RX9) (T := TX9) (N := 36) (ci := 9) (v := .ref (am 31)) hi_X9_orderOf_X9 0 0 30 dX9_orderOf_61 rfl rfl (by decide) fl_X9_orderOf_53 rfl ?_
          refine g_iload F dX9_orderOf_64 2 rfl ?_
          refine g_iconst F (v := (1 : Int32)) dX9_orderOf_66 (by decide) ?_
          refine g_iload F dX9_orderOf_67 4 rfl ?_
          refine g_ishl F dX9_orderOf_69 ?_
          refine g_ior F dX9_orderOf_70 ?_
          refine g_laload F h 2 0 dX9_orderOf_71 rfl (fun h => ?_)
          refine g_goto F 76 dX9_orderOf_72 (by decide) ?_
          refine g_lsub F dX9_orderOf_76 ?_
          refine g_lstore_n F (lv' := [(3, .long (x3 - (m_ways ((x5 ||| ((1 : Int32) <<< (x7 &&& 31)))).toNatClampNeg))), (0, .ref (am 0)), (5, .int x5), (6, .int x6), (7, .int x7)]) dX9_orderOf_77 rfl (by decide) rfl ?_
          refine g_iinc F (v := (x7 + 1)) (lv' := [(7, .int (x7 + 1)), (3, .long (x3 - (m_ways ((x5 ||| ((1 : Int32) <<< (x7 &&& 31)))).toNatClampNeg))), (0, .ref (am 0)), (5, .int x5), (6, .int x6)]) dX9_orderOf_78 4 rfl rfl (by decide) rfl ?_
          refine g_goto F 20 dX9_orderOf_81 (by decide) ?_
          refine Go.sub (lv' := [(0, .ref (am 0)), (3, .long (x3 - (m_ways ((x5 ||| ((1 : Int32) <<< (x7 &&& 31)))).toNatClampNeg))), (5, .int x5), (6, .int x6), (7, .int (x7 + 1))]) [2, 1, 3, 4, 0] rfl ?_
          exact ih (x3 - (m_ways ((x5 ||| ((1 : Int32) <<< (x7 &&& 31)))).toNatClampNeg)) (x7 + 1) h
set_option maxHeartbeats 4000000 in
set_option maxRecDepth 100000 in
theorem k_X9_orderOf_8_ok {G : GX} {cy : Nat → ClassId} (am : Nat → Nat)   (Mm : ModS) (m_s : (Nat → Int32)) (m_ways : (Nat → Int64)) {out : (Nat → Int32)} (F : Fx G cX9_orderOf wsX9_orderOf RX9 cy 8 (rm_X9_orderOf)) (Rq : Rx G "orderOf" none none (fun z => z = [(sMod cy am Mm), (sI cy (am 12) 24 m_s), (sJ cy (am 31) 4096 m_ways), (sI cy (am 33) 12 out)]) 0 0) (ke : (Nat → Int32) → Option ((Nat → Int32))) (hke : ∀  (m_order : (Nat → Int32)), ke m_order = some out → Go G 0 0 108 [] [] [(sMod cy am Mm), (sI cy (am 12) 24 m_s), (sJ cy (am 31) 4096 m_ways), (sI cy (am 33) 12 m_order)]) : ∀ (n : Nat) (x3 : Int64) (x5 : Int32) (x6 : Int32) (m_order : (Nat → Int32)), k_X9_orderOf_8 Mm m_s m_ways ke n x3 x5 x6 m_order = some out → Go G 0 0 8 [(0, .ref (am 0)), (3, .long x3), (5, .int x5), (6, .int x6)] [] [(sMod cy am Mm), (sI cy (am 12) 24 m_s), (sJ cy (am 31) 4096 m_ways), (sI cy (am 33) 12 m_order)] := by
  intro n
  induction n with
  | zero =>
    intro x3 x5 x6 m_order h
    exact nosome h
  | succ n ih =>
    intro x3 x5 x6 m_order h
    rw [k_X9_orderOf_8.eq_2] at h
    refine g_iload F dX9_orderOf_8 3 rfl ?_
    refine g_aload_n F dX9_orderOf_10 rfl 0 rfl ?_
    refine g_get F (C := RX9) (T := TX9) (N := 36) (ci := 9) (v := .int (Mm 8)) hi_X9_orderOf_X9 0 0 8 dX9_orderOf_11 rfl rfl (by decide) fl_X9_orderOf_145 rfl ?_
    refine g_icmp_ge F 108 h dX9_orderOf_14 (by decide) (fun h => ?_) (fun h => ?_)
    · refine Go.sub (lv' := []) [] rfl ?_
      exact hke m_order h
    · refine g_iconst F (v := (0 : Int32)) dX9_orderOf_17 (by decide) ?_
      refine g_istore F (lv' := [(7, .int (0 : Int32)), (0, .ref (am 0)), (3, .long x3), (5, .int x5), (6, .int x6)]) dX9_orderOf_18 (by decide) rfl ?_
      refine Go.sub (lv' := [(0, .ref (am 0)), (3, .long x3), (5, .int x5), (6, .int x6), (7, .int (0 : Int32))]) [1, 2, 3, 4, 0] rfl ?_
      refine k_X9_orderOf_20_ok am x5 x6 Mm m_s m_ways m_order F Rq _ (fun x3_4 x7_4 h => ?_) _ x3 (0 : Int32) h
      refine g_aload_n F dX9_orderOf_84 rfl 0 rfl ?_
      refine g_get F (C := RX9) (T := TX9) (N := 36) (ci := 9) (v := .ref (am 33)) hi_X9_orderOf_X9 0 0 32 dX9_orderOf_85 rfl rfl (by decide) fl_X9_orderOf_60 rfl ?_
      refine g_iload F dX9_orderOf_88 3 rfl ?_
      refine g_iload F dX9_orderOf_90 4 rfl ?_
      refine g_iastore F h (sg' := [(sMod cy am Mm), (sI cy (am 12) 24 m_s), (sJ cy (am 31) 4096 m_ways), (sI cy (am 33) 12 (upd m_order (x6).toNatClampNeg x7_4))]) 3 0 dX9_orderOf_92 rfl rfl (fun h => ?_)
      refine g_iload F dX9_orderOf_93 2 rfl ?_
      refine g_iconst F (v := (1 : Int32)) dX9_orderOf_95 (by decide) ?_
      refine g_iload F dX9_orderOf_96 4 rfl ?_
      refine g_ishl F dX9_orderOf_98 ?_
      refine g_ior F dX9_orderOf_99 ?_
      refine g_istore F (lv' := [(5, .int (x5 ||| ((1 : Int32) <<< (x7_4 &&& 31)))), (0, .ref (am 0)), (3, .long x3_4), (6, .int x6), (7, .int x7_4)]) dX9_orderOf_100 (by decide) rfl ?_
      refine g_iinc F (v := (x6 + 1)) (lv' := [(6, .int (x6 + 1)), (5, .int (x5 ||| ((1 : Int32) <<< (x7_4 &&& 31)))), (0, .ref (am 0)), (3, .long x3_4), (7, .int x7_4)]) dX9_orderOf_102 3 rfl rfl (by decide) rfl ?_
      refine g_goto F 8 dX9_orderOf_105 (by decide) ?_
      refine Go.sub (lv' := [(0, .ref (am 0)), (3, .long x3_4), (5, .int (x5 ||| ((1 : Int32) <<< (x7_4 &&& 31)))), (6, .int (x6 + 1))]) [2, 3, 1, 0] rfl ?_
      exact ih x3_4 (x5 ||| ((1 : Int32) <<< (x7_4 &&& 31))) (x6 + 1) (upd m_order (x6).toNatClampNeg x7_4) h
set_option maxHeartbeats 4000000 in
set_option maxRecDepth 100000 in
theorem ok_X9_orderOf (l : Launch) (D : va_G) (cy : Nat → ClassId) (am : Nat → Nat)  (Mm : ModS) (m_s : (Nat → Int32)) (m_ways : (Nat → Int64)) (m_order : (Nat → Int32)) (x1 : Int64) (out : (Nat → Int32)) (h : f_X9_orderOf Mm m_s m_ways m_order x1 = some out) : OK l D cy yX9_orderOf wsX9_orderOf rm_X9_orderOf [.ref (am 0), .long x1] [(sMod cy am Mm), (sI cy (am 12) 24 m_s), (sJ cy (am 31) 4096 m_ways), (sI cy (am 33) 12 m_order)] none [(sMod cy am Mm), (sI cy (am 12) 24 m_s), (sJ cy (am 31) 4096 m_ways), (sI cy (am 33) 12 out)] := by
  refine OKx.of (cc := cX9_orderOf) (maxL := 8) (ret := none) (by decide) rfl (Nat.le_of_ble_eq_true rfl) (fun G F Rq => ?_)
  show Go G 0 0 0 [(0, .ref (am 0)), (1, .long x1)] [] [(sMod cy am Mm), (sI cy (am 12) 24 m_s), (sJ cy (am 31) 4096 m_ways), (sI cy (am 33) 12 m_order)]
  replace F : Fx G cX9_orderOf wsX9_orderOf RX9 cy 8 (rm_X9_orderOf) := F
  replace Rq : Rx G "orderOf" none none (fun z => z = [(sMod cy am Mm), (sI cy (am 12) 24 m_s), (sJ cy (am 31) 4096 m_ways), (sI cy (am 33) 12 out)]) 0 0 := Rq
  unfold f_X9_orderOf at h
  refine g_lload_n F dX9_orderOf_0 rfl 1 rfl ?_
  refine g_lstore_n F (lv' := [(3, .long x1), (0, .ref (am 0)), (1, .long x1)]) dX9_orderOf_1 rfl (by decide) rfl ?_
  refine g_iconst F (v := (0 : Int32)) dX9_orderOf_2 (by decide) ?_
  refine g_istore F (lv' := [(5, .int (0 : Int32)), (3, .long x1), (0, .ref (am 0)), (1, .long x1)]) dX9_orderOf_3 (by decide) rfl ?_
  refine g_iconst F (v := (0 : Int32)) dX9_orderOf_5 (by decide) ?_
  refine g_istore F (lv' := [(6, .int (0 : Int32)), (5, .int (0 : Int32)), (3, .long x1), (0, .ref (am 0)), (1, .long x1)]) dX9_orderOf_6 (by decide) rfl ?_
  refine Go.sub (lv' := [(0, .ref (am 0)), (3, .long x1), (5, .int (0 : Int32)), (6, .int (0 : Int32))]) [3, 2, 1, 0] rfl ?_
  refine k_X9_orderOf_8_ok am Mm m_s m_ways F Rq _ (fun m_order_5 h => ?_) _ x1 (0 : Int32) (0 : Int32) m_order h
  obtain rfl := Option.some.inj h
  exact g_vret F Rq rfl dX9_orderOf_108
theorem hi_X9_sorts_X9 : ∀ w ∈ u_ws RX9 TX9 36, w ∈ wsX9_sorts := by decide +kernel
theorem fl_X9_sorts_75 : Cond.fieldLink RX9 75 "ArcOrderModel" "thrown" "I" ∈ wsX9_sorts := by decide +kernel
theorem fl_X9_sorts_16 : Cond.fieldLink RX9 16 "ArcOrderModel" "s" "[I" ∈ wsX9_sorts := by decide +kernel
theorem fl_X9_sorts_22 : Cond.fieldLink RX9 22 "ArcOrderModel" "was" "[I" ∈ wsX9_sorts := by decide +kernel
theorem fl_X9_sorts_145 : Cond.fieldLink RX9 145 "ArcOrderModel" "items" "I" ∈ wsX9_sorts := by decide +kernel
theorem fl_X9_sorts_60 : Cond.fieldLink RX9 60 "ArcOrderModel" "order" "[I" ∈ wsX9_sorts := by decide +kernel
abbrev rm_X9_sorts : Room := { frames := 4, cells := 0, slots := 0, locals := 93 }
set_option maxHeartbeats 4000000 in
set_option maxRecDepth 100000 in
theorem k_X9_sorts_31_ok {G : GX} {cy : Nat → ClassId} (am : Nat → Nat)   (Mm : ModS) (m_was : (Nat → Int32)) (m_undos : (Nat → Int32)) (m_ways : (Nat → Int64)) (m_order : (Nat → Int32)) {out : Int32 × ModS × (Nat → Int32) × (Nat → Int32) × (Nat → Int32) × (Nat → Int64) × (Nat → Int32)} (F : Fx G cX9_sorts wsX9_sorts RX9 cy 2 (rm_X9_sorts)) (Rq : Rx G "sorts" (some .int) (some (.int out.1)) (fun z => z = [(sMod cy am out.2.1), (sI cy (am 12) 24 out.2.2.1), (sI cy (am 14) 24 out.2.2.2.1), (sI cy (am 17) 240 out.2.2.2.2.1), (sJ cy (am 31) 4096 out.2.2.2.2.2.1), (sI cy (am 33) 12 out.2.2.2.2.2.2)]) 0 0) (ke : (Nat → Int32) → Option (Int32 × ModS × (Nat → Int32) × (Nat → Int32) × (Nat → Int32) × (Nat → Int64) × (Nat → Int32))) (hke : ∀  (m_s : (Nat → Int32)), ke m_s = some out → Go G 0 0 60 [(0, .ref (am 0))] [] [(sMod cy am Mm), (sI cy (am 12) 24 m_s), (sI cy (am 14) 24 m_was), (sI cy (am 17) 240 m_undos), (sJ cy (am 31) 4096 m_ways), (sI cy (am 33) 12 m_order)]) : ∀ (n : Nat) (x1 : Int32) (m_s : (Nat → Int32)), k_X9_sorts_31 Mm m_was m_undos m_ways m_order ke n x1 m_s = some out → Go G 0 0 31 [(0, .ref (am 0)), (1, .int x1)] [] [(sMod cy am Mm), (sI cy (am 12) 24 m_s), (sI cy (am 14) 24 m_was), (sI cy (am 17) 240 m_undos), (sJ cy (am 31) 4096 m_ways), (sI cy (am 33) 12 m_order)] := by
  intro n
  induction n with
  | zero =>
    intro x1 m_s h
    exact nosome h
  | succ n ih =>
    intro x1 m_s h
    rw [k_X9_sorts_31.eq_2] at h
    refine g_iload_n F dX9_sorts_31 rfl 1 rfl ?_
    refine g_aload_n F dX9_sorts_32 rfl 0 rfl ?_
    refine g_get F (C := RX9) (T := TX9) (N := 36) (ci := 9) (v := .int (Mm 8)) hi_X9_sorts_X9 0 0 8 dX9_sorts_33 rfl rfl (by decide) fl_X9_sorts_145 rfl ?_
    refine g_icmp_ge F 60 h dX9_sorts_36 (by decide) (fun h => ?_) (fun h => ?_)
    · refine Go.sub (lv' := [(0, .ref (am 0))]) [0] rfl ?_
      exact hke m_s h
    · refine g_aload_n F dX9_sorts_39 rfl 0 rfl ?_
      refine g_get F (C := RX9) (T := TX9) (N := 36) (ci := 9) (v := .ref (am 12)) hi_X9_sorts_X9 0 0 11 dX9_sorts_40 rfl rfl (by decide) fl_X9_sorts_16 rfl ?_
      refine g_bipush F (v := (12 : Int32)) dX9_sorts_43 (by decide) ?_
      refine g_aload_n F dX9_sorts_45 rfl 0 rfl ?_
      refine g_get F (C := RX9) (T := TX9) (N := 36) (ci := 9) (v := .ref (am 33)) hi_X9_sorts_X9 0 0 32 dX9_sorts_46 rfl rfl (by decide) fl_X9_sorts_60 rfl ?_
      refine g_iload_n F dX9_sorts_49 rfl 1 rfl ?_
      refine g_iaload F h 5 0 dX9_sorts_50 rfl (fun h => ?_)
      refine g_iadd F dX9_sorts_51 ?_
      refine g_iload_n F dX9_sorts_52 rfl 1 rfl ?_
      refine g_iastore F h (sg' := [(sMod cy am Mm), (sI cy (am 12) 24 (upd m_s (((12 : Int32) + (m_order (x1).toNatClampNeg))).toNatClampNeg x1)), (sI cy (am 14) 24 m_was), (sI cy (am 17) 240 m_undos), (sJ cy (am 31) 4096 m_ways), (sI cy (am 33) 12 m_order)]) 1 0 dX9_sorts_53 rfl rfl (fun h => ?_)
      refine g_iinc F (v := (x1 + 1)) (lv' := [(1, .int (x1 + 1)), (0, .ref (am 0))]) dX9_sorts_54 1 rfl rfl (by decide) rfl ?_
      refine g_goto F 31 dX9_sorts_57 (by decide) ?_
      refine Go.sub (lv' := [(0, .ref (am 0)), (1, .int (x1 + 1))]) [1, 0] rfl ?_
      exact ih (x1 + 1) (upd m_s (((12 : Int32) + (m_order (x1).toNatClampNeg))).toNatClampNeg x1) h
set_option maxHeartbeats 4000000 in
set_option maxRecDepth 100000 in
theorem ok_X9_sorts (l : Launch) (D : va_G) (cy : Nat → ClassId) (am : Nat → Nat)  (Mm : ModS) (m_s : (Nat → Int32)) (m_was : (Nat → Int32)) (m_undos : (Nat → Int32)) (m_ways : (Nat → Int64)) (m_order : (Nat → Int32))  (out : Int32 × ModS × (Nat → Int32) × (Nat → Int32) × (Nat → Int32) × (Nat → Int64) × (Nat → Int32)) (h : f_X9_sorts Mm m_s m_was m_undos m_ways m_order = some out) : OK l D cy yX9_sorts wsX9_sorts rm_X9_sorts [.ref (am 0)] [(sMod cy am Mm), (sI cy (am 12) 24 m_s), (sI cy (am 14) 24 m_was), (sI cy (am 17) 240 m_undos), (sJ cy (am 31) 4096 m_ways), (sI cy (am 33) 12 m_order)] (some (.int out.1)) [(sMod cy am out.2.1), (sI cy (am 12) 24 out.2.2.1), (sI cy (am 14) 24 out.2.2.2.1), (sI cy (am 17) 240 out.2.2.2.2.1), (sJ cy (am 31) 4096 out.2.2.2.2.2.1), (sI cy (am 33) 12 out.2.2.2.2.2.2)] := by
  refine OKx.of (cc := cX9_sorts) (maxL := 2) (ret := (some .int)) (by decide) rfl (Nat.le_of_ble_eq_true rfl) (fun G F Rq => ?_)
  show Go G 0 0 0 [(0, .ref (am 0))] [] [(sMod cy am Mm), (sI cy (am 12) 24 m_s), (sI cy (am 14) 24 m_was), (sI cy (am 17) 240 m_undos), (sJ cy (am 31) 4096 m_ways), (sI cy (am 33) 12 m_order)]
  replace F : Fx G cX9_sorts wsX9_sorts RX9 cy 2 (rm_X9_sorts) := F
  replace Rq : Rx G "sorts" (some .int) (some (.int out.1)) (fun z => z = [(sMod cy am out.2.1), (sI cy (am 12) 24 out.2.2.1), (sI cy (am 14) 24 out.2.2.2.1), (sI cy (am 17) 240 out.2.2.2.2.1), (sJ cy (am 31) 4096 out.2.2.2.2.2.1), (sI cy (am 33) 12 out.2.2.2.2.2.2)]) 0 0 := Rq
  unfold f_X9_sorts at h
  refine g_aload_n F dX9_sorts_0 rfl 0 rfl ?_
  refine g_iconst F (v := (0 : Int32)) dX9_sorts_1 (by decide) ?_
  refine g_put F (C := RX9) (T := TX9) (N := 36) (ci := 9) (v := .int (0 : Int32)) (ty := .int) (sg' := [(sMod cy am (upd Mm 0 (0 : Int32))), (sI cy (am 12) 24 m_s), (sI cy (am 14) 24 m_was), (sI cy (am 17) 240 m_undos), (sJ cy (am 31) 4096 m_ways), (sI cy (am 33) 12 m_order)]) hi_X9_sorts_X9 tyX9 tyX9_ok nmX9 0 0 0 dX9_sorts_2 rfl rfl (by decide) fl_X9_sorts_75 rfl rfl rfl rfl (Nat.le_of_ble_eq_true rfl) rfl ?_
  refine g_aload_n F dX9_sorts_5 rfl 0 rfl ?_
  obtain ⟨r1, hr1, h⟩ := bnd h
  refine g_cV F [] 0 0 (ok_X9_notes (gl G) (gD G) cy am (upd Mm 0 (0 : Int32)) m_s m_undos r1 hr1) dX9_sorts_6 rfl rfl gX9_sorts_X9_notes rfl ⟨rfl, cd_X9_notes⟩ (by decide) rfl (Nat.le_of_ble_eq_true rfl) [0, 1, 3] (by decide) rfl rfl (sg' := [(sMod cy am r1.1), (sI cy (am 12) 24 m_s), (sI cy (am 14) 24 m_was), (sI cy (am 17) 240 r1.2), (sJ cy (am 31) 4096 m_ways), (sI cy (am 33) 12 m_order)]) (st' := []) rfl rfl ?_
  refine g_aload_n F dX9_sorts_9 rfl 0 rfl ?_
  refine g_get F (C := RX9) (T := TX9) (N := 36) (ci := 9) (v := .ref (am 12)) hi_X9_sorts_X9 0 0 11 dX9_sorts_10 rfl rfl (by decide) fl_X9_sorts_16 rfl ?_
  refine g_aload_n F dX9_sorts_13 rfl 0 rfl ?_
  refine g_get F (C := RX9) (T := TX9) (N := 36) (ci := 9) (v := .ref (am 14)) hi_X9_sorts_X9 0 0 13 dX9_sorts_14 rfl rfl (by decide) fl_X9_sorts_22 rfl ?_
  obtain ⟨r2, hr2, h⟩ := bnd h
  refine g_cS F [.ref (am 12), .ref (am 14)] (ok_X9_copies (gl G) (gD G) cy (am 12) (am 14) m_s m_was r2 hr2) dX9_sorts_17 gX9_sorts_X9_copies rfl cd_X9_copies (by decide) rfl (Nat.le_of_ble_eq_true rfl) [1, 2] (by decide) rfl rfl (sg' := [(sMod cy am r1.1), (sI cy (am 12) 24 m_s), (sI cy (am 14) 24 r2), (sI cy (am 17) 240 r1.2), (sJ cy (am 31) 4096 m_ways), (sI cy (am 33) 12 m_order)]) (st' := []) rfl rfl ?_
  refine g_aload_n F dX9_sorts_20 rfl 0 rfl ?_
  obtain ⟨r3, hr3, h⟩ := bnd h
  refine g_cV F [] 0 0 (ok_X9_counts (gl G) (gD G) cy am r1.1 m_s m_ways r3 hr3) dX9_sorts_21 rfl rfl gX9_sorts_X9_counts rfl ⟨rfl, cd_X9_counts⟩ (by decide) rfl (Nat.le_of_ble_eq_true rfl) [0, 1, 4] (by decide) rfl rfl (sg' := [(sMod cy am r1.1), (sI cy (am 12) 24 m_s), (sI cy (am 14) 24 r2), (sI cy (am 17) 240 r1.2), (sJ cy (am 31) 4096 r3), (sI cy (am 33) 12 m_order)]) (st' := []) rfl rfl ?_
  refine g_aload_n F dX9_sorts_24 rfl 0 rfl ?_
  refine g_lconst F (v := (0 : Int64)) dX9_sorts_25 (by decide) ?_
  obtain ⟨r4, hr4, h⟩ := bnd h
  refine g_cV F [.long (0 : Int64)] 0 0 (ok_X9_orderOf (gl G) (gD G) cy am r1.1 m_s r3 m_order (0 : Int64) r4 hr4) dX9_sorts_26 rfl rfl gX9_sorts_X9_orderOf rfl ⟨rfl, cd_X9_orderOf⟩ (by decide) rfl (Nat.le_of_ble_eq_true rfl) [0, 1, 4, 5] (by decide) rfl rfl (sg' := [(sMod cy am r1.1), (sI cy (am 12) 24 m_s), (sI cy (am 14) 24 r2), (sI cy (am 17) 240 r1.2), (sJ cy (am 31) 4096 r3), (sI cy (am 33) 12 r4)]) (st' := []) rfl rfl ?_
  refine g_iconst F (v := (0 : Int32)) dX9_sorts_29 (by decide) ?_
  refine g_istore_n F (lv' := [(1, .int (0 : Int32)), (0, .ref (am 0))]) dX9_sorts_30 rfl (by decide) rfl ?_
  refine Go.sub (lv' := [(0, .ref (am 0)), (1, .int (0 : Int32))]) [1, 0] rfl ?_
  refine k_X9_sorts_31_ok am r1.1 r2 r1.2 r3 r4 F Rq _ (fun m_s_5 h => ?_) _ (0 : Int32) m_s h
  refine g_aload_n F dX9_sorts_60 rfl 0 rfl ?_
  refine g_aload_n F dX9_sorts_61 rfl 0 rfl ?_
  refine g_get F (C := RX9) (T := TX9) (N := 36) (ci := 9) (v := .ref (am 14)) hi_X9_sorts_X9 0 0 13 dX9_sorts_62 rfl rfl (by decide) fl_X9_sorts_22 rfl ?_
  refine g_aload_n F dX9_sorts_65 rfl 0 rfl ?_
  refine g_get F (C := RX9) (T := TX9) (N := 36) (ci := 9) (v := .ref (am 12)) hi_X9_sorts_X9 0 0 11 dX9_sorts_66 rfl rfl (by decide) fl_X9_sorts_16 rfl ?_
  obtain ⟨r6, hr6, h⟩ := bnd h
  refine g_cV F [.ref (am 14), .ref (am 12)] 0 0 (ok_X9_moved (gl G) (gD G) cy am (am 14) (am 12) r1.1 r2 m_s_5 r6 hr6) dX9_sorts_69 rfl rfl gX9_sorts_X9_moved rfl ⟨rfl, cd_X9_moved⟩ (by decide) rfl (Nat.le_of_ble_eq_true rfl) [0, 2, 1] (by decide) rfl rfl (sg' := [(sMod cy am r1.1), (sI cy (am 12) 24 m_s_5), (sI cy (am 14) 24 r2), (sI cy (am 17) 240 r1.2), (sJ cy (am 31) 4096 r3), (sI cy (am 33) 12 r4)]) (st' := [.int r6]) rfl rfl ?_
  obtain ⟨r7, hr7, h⟩ := bnd h
  refine g_cS F [.int r6] (ok_X9_ones (gl G) (gD G) cy r6 r7 hr7) dX9_sorts_72 gX9_sorts_X9_ones rfl cd_X9_ones (by decide) rfl (Nat.le_of_ble_eq_true rfl) [] (by decide) rfl rfl (sg' := [(sMod cy am r1.1), (sI cy (am 12) 24 m_s_5), (sI cy (am 14) 24 r2), (sI cy (am 17) 240 r1.2), (sJ cy (am 31) 4096 r3), (sI cy (am 33) 12 r4)]) (st' := [.int r7]) rfl rfl ?_
  obtain rfl := Option.some.inj h
  exact g_iret F Rq rfl dX9_sorts_75
theorem hi_X9_undo_X9 : ∀ w ∈ u_ws RX9 TX9 36, w ∈ wsX9_undo := by decide +kernel
theorem fl_X9_undo_75 : Cond.fieldLink RX9 75 "ArcOrderModel" "thrown" "I" ∈ wsX9_undo := by decide +kernel
theorem fl_X9_undo_158 : Cond.fieldLink RX9 158 "ArcOrderModel" "undoMany" "I" ∈ wsX9_undo := by decide +kernel
theorem fl_X9_undo_16 : Cond.fieldLink RX9 16 "ArcOrderModel" "s" "[I" ∈ wsX9_undo := by decide +kernel
theorem fl_X9_undo_32 : Cond.fieldLink RX9 32 "ArcOrderModel" "undos" "[I" ∈ wsX9_undo := by decide +kernel
abbrev rm_X9_undo : Room := { frames := 0, cells := 0, slots := 0, locals := 0 }
set_option maxHeartbeats 4000000 in
set_option maxRecDepth 100000 in
theorem k_X9_undo_27_ok {G : GX} {cy : Nat → ClassId} (am : Nat → Nat)   (Mm : ModS) (m_undos : (Nat → Int32)) {out : Int32 × ModS × (Nat → Int32)} (F : Fx G cX9_undo wsX9_undo RX9 cy 2 (rm_X9_undo)) (Rq : Rx G "undo" (some .int) (some (.int out.1)) (fun z => z = [(sMod cy am out.2.1), (sI cy (am 12) 24 out.2.2), (sI cy (am 17) 240 m_undos)]) 0 0) (ke : (Nat → Int32) → Option (Int32 × ModS × (Nat → Int32))) (hke : ∀  (m_s : (Nat → Int32)), ke m_s = some out → Go G 0 0 59 [(0, .ref (am 0))] [] [(sMod cy am Mm), (sI cy (am 12) 24 m_s), (sI cy (am 17) 240 m_undos)]) : ∀ (n : Nat) (x1 : Int32) (m_s : (Nat → Int32)), k_X9_undo_27 Mm m_undos ke n x1 m_s = some out → Go G 0 0 27 [(0, .ref (am 0)), (1, .int x1)] [] [(sMod cy am Mm), (sI cy (am 12) 24 m_s), (sI cy (am 17) 240 m_undos)] := by
  intro n
  induction n with
  | zero =>
    intro x1 m_s h
    exact nosome h
  | succ n ih =>
    intro x1 m_s h
    rw [k_X9_undo_27.eq_2] at h
    refine g_iload_n F dX9_undo_27 rfl 1 rfl ?_
    refine g_bipush F (v := (24 : Int32)) dX9_undo_28 (by decide) ?_
    refine g_icmp_ge F 59 h dX9_undo_30 (by decide) (fun h => ?_) (fun h => ?_)
    · refine Go.sub (lv' := [(0, .ref (am 0))]) [0] rfl ?_
      exact hke m_s h
    · refine g_aload_n F dX9_undo_33 rfl 0 rfl ?_
      refine g_get F (C := RX9) (T := TX9) (N := 36) (ci := 9) (v := .ref (am 12)) hi_X9_undo_X9 0 0 11 dX9_undo_34 rfl rfl (by decide) fl_X9_undo_16 rfl ?_
      refine g_iload_n F dX9_undo_37 rfl 1 rfl ?_
      refine g_aload_n F dX9_undo_38 rfl 0 rfl ?_
      refine g_get F (C := RX9) (T := TX9) (N := 36) (ci := 9) (v := .ref (am 17)) hi_X9_undo_X9 0 0 16 dX9_undo_39 rfl rfl (by decide) fl_X9_undo_32 rfl ?_
      refine g_bipush F (v := (24 : Int32)) dX9_undo_42 (by decide) ?_
      refine g_aload_n F dX9_undo_44 rfl 0 rfl ?_
      refine g_get F (C := RX9) (T := TX9) (N := 36) (ci := 9) (v := .int (Mm 17)) hi_X9_undo_X9 0 0 17 dX9_undo_45 rfl rfl (by decide) fl_X9_undo_158 rfl ?_
      refine g_imul F dX9_undo_48 ?_
      refine g_iload_n F dX9_undo_49 rfl 1 rfl ?_
      refine g_iadd F dX9_undo_50 ?_
      refine g_iaload F h 2 0 dX9_undo_51 rfl (fun h => ?_)
      refine g_iastore F h (sg' := [(sMod cy am Mm), (sI cy (am 12) 24 (upd m_s (x1).toNatClampNeg (m_undos ((((24 : Int32) * (Mm 17)) + x1)).toNatClampNeg))), (sI cy (am 17) 240 m_undos)]) 1 0 dX9_undo_52 rfl rfl (fun h => ?_)
      refine g_iinc F (v := (x1 + 1)) (lv' := [(1, .int (x1 + 1)), (0, .ref (am 0))]) dX9_undo_53 1 rfl rfl (by decide) rfl ?_
      refine g_goto F 27 dX9_undo_56 (by decide) ?_
      refine Go.sub (lv' := [(0, .ref (am 0)), (1, .int (x1 + 1))]) [1, 0] rfl ?_
      exact ih (x1 + 1) (upd m_s (x1).toNatClampNeg (m_undos ((((24 : Int32) * (Mm 17)) + x1)).toNatClampNeg)) h
set_option maxHeartbeats 4000000 in
set_option maxRecDepth 100000 in
theorem ok_X9_undo (l : Launch) (D : va_G) (cy : Nat → ClassId) (am : Nat → Nat)  (Mm : ModS) (m_s : (Nat → Int32)) (m_undos : (Nat → Int32))  (out : Int32 × ModS × (Nat → Int32)) (h : f_X9_undo Mm m_s m_undos = some out) : OK l D cy yX9_undo wsX9_undo rm_X9_undo [.ref (am 0)] [(sMod cy am Mm), (sI cy (am 12) 24 m_s), (sI cy (am 17) 240 m_undos)] (some (.int out.1)) [(sMod cy am out.2.1), (sI cy (am 12) 24 out.2.2), (sI cy (am 17) 240 m_undos)] := by
  refine OKx.of (cc := cX9_undo) (maxL := 2) (ret := (some .int)) (by decide) rfl (Nat.le_of_ble_eq_true rfl) (fun G F Rq => ?_)
  show Go G 0 0 0 [(0, .ref (am 0))] [] [(sMod cy am Mm), (sI cy (am 12) 24 m_s), (sI cy (am 17) 240 m_undos)]
  replace F : Fx G cX9_undo wsX9_undo RX9 cy 2 (rm_X9_undo) := F
  replace Rq : Rx G "undo" (some .int) (some (.int out.1)) (fun z => z = [(sMod cy am out.2.1), (sI cy (am 12) 24 out.2.2), (sI cy (am 17) 240 m_undos)]) 0 0 := Rq
  unfold f_X9_undo at h
  refine g_aload_n F dX9_undo_0 rfl 0 rfl ?_
  refine g_iconst F (v := (0 : Int32)) dX9_undo_1 (by decide) ?_
  refine g_put F (C := RX9) (T := TX9) (N := 36) (ci := 9) (v := .int (0 : Int32)) (ty := .int) (sg' := [(sMod cy am (upd Mm 0 (0 : Int32))), (sI cy (am 12) 24 m_s), (sI cy (am 17) 240 m_undos)]) hi_X9_undo_X9 tyX9 tyX9_ok nmX9 0 0 0 dX9_undo_2 rfl rfl (by decide) fl_X9_undo_75 rfl rfl rfl rfl (Nat.le_of_ble_eq_true rfl) rfl ?_
  refine g_aload_n F dX9_undo_5 rfl 0 rfl ?_
  refine g_get F (C := RX9) (T := TX9) (N := 36) (ci := 9) (v := .int (Mm 17)) hi_X9_undo_X9 0 0 17 dX9_undo_6 rfl rfl (by decide) fl_X9_undo_158 rfl ?_
  refine g_if_ne F 15 h dX9_undo_9 (by decide) (fun h => ?_) (fun h => ?_)
  · refine g_aload_n F dX9_undo_15 rfl 0 rfl ?_
    refine g_dup F dX9_undo_16 rfl ?_
    refine g_get F (C := RX9) (T := TX9) (N := 36) (ci := 9) (v := .int (Mm 17)) hi_X9_undo_X9 0 0 17 dX9_undo_17 rfl rfl (by decide) fl_X9_undo_158 rfl ?_
    refine g_iconst F (v := (1 : Int32)) dX9_undo_20 (by decide) ?_
    refine g_isub F dX9_undo_21 ?_
    refine g_put F (C := RX9) (T := TX9) (N := 36) (ci := 9) (v := .int ((Mm 17) - (1 : Int32))) (ty := .int) (sg' := [(sMod cy am (upd (upd Mm 0 (0 : Int32)) 17 ((Mm 17) - (1 : Int32)))), (sI cy (am 12) 24 m_s), (sI cy (am 17) 240 m_undos)]) hi_X9_undo_X9 tyX9 tyX9_ok nmX9 0 0 17 dX9_undo_22 rfl rfl (by decide) fl_X9_undo_158 rfl rfl rfl rfl (Nat.le_of_ble_eq_true rfl) rfl ?_
    refine g_iconst F (v := (0 : Int32)) dX9_undo_25 (by decide) ?_
    refine g_istore_n F (lv' := [(1, .int (0 : Int32)), (0, .ref (am 0))]) dX9_undo_26 rfl (by decide) rfl ?_
    refine Go.sub (lv' := [(0, .ref (am 0)), (1, .int (0 : Int32))]) [1, 0] rfl ?_
    refine k_X9_undo_27_ok am (upd (upd Mm 0 (0 : Int32)) 17 ((Mm 17) - (1 : Int32))) m_undos F Rq _ (fun m_s_1 h => ?_) _ (0 : Int32) m_s h
    refine g_aload_n F dX9_undo_59 rfl 0 rfl ?_
    refine g_get F (C := RX9) (T := TX9) (N := 36) (ci := 9) (v := .int ((Mm 17) - (1 : Int32))) hi_X9_undo_X9 0 0 17 dX9_undo_60 rfl rfl (by decide) fl_X9_undo_158 rfl ?_
    obtain rfl := Option.some.inj h
    exact g_iret F Rq rfl dX9_undo_63
  · refine g_bipush F (v := (-2 : Int32)) dX9_undo_12 (by decide) ?_
    obtain rfl := Option.some.inj h
    exact g_iret F Rq rfl dX9_undo_14
theorem hi_X9_arc_X9 : ∀ w ∈ u_ws RX9 TX9 36, w ∈ wsX9_arc := by decide +kernel
theorem fl_X9_arc_75 : Cond.fieldLink RX9 75 "ArcOrderModel" "thrown" "I" ∈ wsX9_arc := by decide +kernel
theorem fl_X9_arc_16 : Cond.fieldLink RX9 16 "ArcOrderModel" "s" "[I" ∈ wsX9_arc := by decide +kernel
theorem fl_X9_arc_167 : Cond.fieldLink RX9 167 "ArcOrderModel" "after" "I" ∈ wsX9_arc := by decide +kernel
theorem fl_X9_arc_164 : Cond.fieldLink RX9 164 "ArcOrderModel" "before" "I" ∈ wsX9_arc := by decide +kernel
theorem fl_X9_arc_126 : Cond.fieldLink RX9 126 "ArcOrderModel" "closes" "Z" ∈ wsX9_arc := by decide +kernel
abbrev rm_X9_arc : Room := { frames := 3, cells := 0, slots := 0, locals := 72 }
set_option maxHeartbeats 4000000 in
set_option maxRecDepth 100000 in
theorem ok_X9_arc (l : Launch) (D : va_G) (cy : Nat → ClassId) (am : Nat → Nat)  (Mm : ModS) (m_s : (Nat → Int32)) (m_w : (Nat → Int32)) (m_order : (Nat → Int32)) (m_tried : (Nat → Int32)) (x1 : Int32) (x2 : Int32) (x3 : Int32) (out : Int32 × ModS × (Nat → Int32) × (Nat → Int32) × (Nat → Int32)) (h : f_X9_arc Mm m_s m_w m_order m_tried x1 x2 x3 = some out) : OK l D cy yX9_arc wsX9_arc rm_X9_arc [.ref (am 0), .int x1, .int x2, .int x3] [(sMod cy am Mm), (sI cy (am 12) 24 m_s), (sI cy (am 13) 24 m_w), (sI cy (am 33) 12 m_order), (sI cy (am 34) 24 m_tried)] (some (.int out.1)) [(sMod cy am out.2.1), (sI cy (am 12) 24 m_s), (sI cy (am 13) 24 out.2.2.1), (sI cy (am 33) 12 out.2.2.2.1), (sI cy (am 34) 24 out.2.2.2.2)] := by
  refine OKx.of (cc := cX9_arc) (maxL := 5) (ret := (some .int)) (by decide) rfl (Nat.le_of_ble_eq_true rfl) (fun G F Rq => ?_)
  show Go G 0 0 0 [(0, .ref (am 0)), (1, .int x1), (2, .int x2), (3, .int x3)] [] [(sMod cy am Mm), (sI cy (am 12) 24 m_s), (sI cy (am 13) 24 m_w), (sI cy (am 33) 12 m_order), (sI cy (am 34) 24 m_tried)]
  replace F : Fx G cX9_arc wsX9_arc RX9 cy 5 (rm_X9_arc) := F
  replace Rq : Rx G "arc" (some .int) (some (.int out.1)) (fun z => z = [(sMod cy am out.2.1), (sI cy (am 12) 24 m_s), (sI cy (am 13) 24 out.2.2.1), (sI cy (am 33) 12 out.2.2.2.1), (sI cy (am 34) 24 out.2.2.2.2)]) 0 0 := Rq
  unfold f_X9_arc at h
  refine g_aload_n F dX9_arc_0 rfl 0 rfl ?_
  refine g_iconst F (v := (0 : Int32)) dX9_arc_1 (by decide) ?_
  refine g_put F (C := RX9) (T := TX9) (N := 36) (ci := 9) (v := .int (0 : Int32)) (ty := .int) (sg' := [(sMod cy am (upd Mm 0 (0 : Int32))), (sI cy (am 12) 24 m_s), (sI cy (am 13) 24 m_w), (sI cy (am 33) 12 m_order), (sI cy (am 34) 24 m_tried)]) hi_X9_arc_X9 tyX9 tyX9_ok nmX9 0 0 0 dX9_arc_2 rfl rfl (by decide) fl_X9_arc_75 rfl rfl rfl rfl (Nat.le_of_ble_eq_true rfl) rfl ?_
  refine g_aload_n F dX9_arc_5 rfl 0 rfl ?_
  refine g_iload_n F dX9_arc_6 rfl 1 rfl ?_
  refine g_iload_n F dX9_arc_7 rfl 2 rfl ?_
  obtain ⟨r1, hr1, h⟩ := bnd h
  refine g_cV F [.int x1, .int x2] 0 0 (ok_X9_isTwo (gl G) (gD G) cy am (upd Mm 0 (0 : Int32)) x1 x2 r1 hr1) dX9_arc_8 rfl rfl gX9_arc_X9_isTwo rfl ⟨rfl, cd_X9_isTwo⟩ (by decide) rfl (Nat.le_of_ble_eq_true rfl) [0] (by decide) rfl rfl (sg' := [(sMod cy am (upd Mm 0 (0 : Int32))), (sI cy (am 12) 24 m_s), (sI cy (am 13) 24 m_w), (sI cy (am 33) 12 m_order), (sI cy (am 34) 24 m_tried)]) (st' := [.int r1]) rfl rfl ?_
  refine g_if_eq F 23 h dX9_arc_11 (by decide) (fun h => ?_) (fun h => ?_)
  · refine g_iconst F (v := (-1 : Int32)) dX9_arc_23 (by decide) ?_
    obtain rfl := Option.some.inj h
    exact g_iret F Rq rfl dX9_arc_24
  · refine g_iload_n F dX9_arc_14 rfl 3 rfl ?_
    refine g_iconst F (v := (0 : Int32)) dX9_arc_15 (by decide) ?_
    refine g_iconst F (v := (3 : Int32)) dX9_arc_16 (by decide) ?_
    obtain ⟨r2, hr2, h⟩ := bnd h
    refine g_cS F [.int x3, .int (0 : Int32), .int (3 : Int32)] (ok_X9_in (gl G) (gD G) cy x3 (0 : Int32) (3 : Int32) r2 hr2) dX9_arc_17 gX9_arc_X9_in rfl cd_X9_in (by decide) rfl (Nat.le_of_ble_eq_true rfl) [] (by decide) rfl rfl (sg' := [(sMod cy am (upd Mm 0 (0 : Int32))), (sI cy (am 12) 24 m_s), (sI cy (am 13) 24 m_w), (sI cy (am 33) 12 m_order), (sI cy (am 34) 24 m_tried)]) (st' := [.int r2]) rfl rfl ?_
    refine g_if_ne F 25 h dX9_arc_20 (by decide) (fun h => ?_) (fun h => ?_)
    · refine g_aload_n F dX9_arc_25 rfl 0 rfl ?_
      refine g_get F (C := RX9) (T := TX9) (N := 36) (ci := 9) (v := .ref (am 12)) hi_X9_arc_X9 0 0 11 dX9_arc_26 rfl rfl (by decide) fl_X9_arc_16 rfl ?_
      refine g_iconst F (v := (0 : Int32)) dX9_arc_29 (by decide) ?_
      refine g_iload_n F dX9_arc_30 rfl 1 rfl ?_
      refine g_iadd F dX9_arc_31 ?_
      refine g_iaload F h 1 0 dX9_arc_32 rfl (fun h => ?_)
      refine g_iload_n F dX9_arc_33 rfl 2 rfl ?_
      obtain ⟨r3, hr3, h⟩ := bnd h
      refine g_cS F [.int (m_s (((0 : Int32) + x1)).toNatClampNeg), .int x2] (ok_X9_has (gl G) (gD G) cy (m_s (((0 : Int32) + x1)).toNatClampNeg) x2 r3 hr3) dX9_arc_34 gX9_arc_X9_has rfl cd_X9_has (by decide) rfl (Nat.le_of_ble_eq_true rfl) [] (by decide) rfl rfl (sg' := [(sMod cy am (upd Mm 0 (0 : Int32))), (sI cy (am 12) 24 m_s), (sI cy (am 13) 24 m_w), (sI cy (am 33) 12 m_order), (sI cy (am 34) 24 m_tried)]) (st' := [.int r3]) rfl rfl ?_
      refine g_if_eq F 43 h dX9_arc_37 (by decide) (fun h => ?_) (fun h => ?_)
      · refine g_aload_n F dX9_arc_43 rfl 0 rfl ?_
        refine g_iload_n F dX9_arc_44 rfl 1 rfl ?_
        refine g_iload_n F dX9_arc_45 rfl 2 rfl ?_
        obtain ⟨r4, hr4, h⟩ := bnd h
        refine g_cV F [.int x1, .int x2] 0 0 (ok_X9_movedBy (gl G) (gD G) cy am (upd Mm 0 (0 : Int32)) m_s m_w m_order m_tried x1 x2 r4 hr4) dX9_arc_46 rfl rfl gX9_arc_X9_movedBy rfl ⟨rfl, cd_X9_movedBy⟩ (by decide) rfl (Nat.le_of_ble_eq_true rfl) [0, 1, 2, 3, 4] (by decide) rfl rfl (sg' := [(sMod cy am r4.2.1), (sI cy (am 12) 24 m_s), (sI cy (am 13) 24 r4.2.2.1), (sI cy (am 33) 12 r4.2.2.2.1), (sI cy (am 34) 24 r4.2.2.2.2)]) (st' := [.int r4.1]) rfl rfl ?_
        refine g_istore F (lv' := [(4, .int r4.1), (0, .ref (am 0)), (1, .int x1), (2, .int x2), (3, .int x3)]) dX9_arc_49 (by decide) rfl ?_
        refine g_iload_n F dX9_arc_51 rfl 4 rfl ?_
        refine g_if_ne F 60 h dX9_arc_52 (by decide) (fun h => ?_) (fun h => ?_)
        · refine g_iload_n F dX9_arc_60 rfl 4 rfl ?_
          refine g_iconst F (v := (1 : Int32)) dX9_arc_61 (by decide) ?_
          refine g_icmp_ne F 80 h dX9_arc_62 (by decide) (fun h => ?_) (fun h => ?_)
          · refine g_iload_n F dX9_arc_80 rfl 4 rfl ?_
            refine g_iconst F (v := (2 : Int32)) dX9_arc_81 (by decide) ?_
            refine g_icmp_ne F 92 h dX9_arc_82 (by decide) (fun h => ?_) (fun h => ?_)
            · refine g_aload_n F dX9_arc_92 rfl 1 rfl ?_
              refine g_get F (C := RX9) (T := TX9) (N := 36) (ci := 9) (v := .int (r4.2.1 27)) hi_X9_arc_X9 0 0 27 dX9_arc_93 rfl rfl (by decide) fl_X9_arc_167 rfl ?_
              obtain rfl := Option.some.inj h
              exact g_iret F Rq rfl dX9_arc_96
            · refine g_aload_n F dX9_arc_85 rfl 1 rfl ?_
              refine g_get F (C := RX9) (T := TX9) (N := 36) (ci := 9) (v := .int (r4.2.1 26)) hi_X9_arc_X9 0 0 26 dX9_arc_86 rfl rfl (by decide) fl_X9_arc_164 rfl ?_
              refine g_goto F 96 dX9_arc_89 (by decide) ?_
              obtain rfl := Option.some.inj h
              exact g_iret F Rq rfl dX9_arc_96
          · refine g_aload_n F dX9_arc_65 rfl 1 rfl ?_
            refine g_get F (C := RX9) (T := TX9) (N := 36) (ci := 9) (v := .int (r4.2.1 28)) hi_X9_arc_X9 0 0 28 dX9_arc_66 rfl rfl (by decide) fl_X9_arc_126 rfl ?_
            refine g_if_eq F 76 h dX9_arc_69 (by decide) (fun h => ?_) (fun h => ?_)
            · refine g_iconst F (v := (0 : Int32)) dX9_arc_76 (by decide) ?_
              refine g_goto F 96 dX9_arc_77 (by decide) ?_
              obtain rfl := Option.some.inj h
              exact g_iret F Rq rfl dX9_arc_96
            · refine g_iconst F (v := (1 : Int32)) dX9_arc_72 (by decide) ?_
              refine g_goto F 96 dX9_arc_73 (by decide) ?_
              obtain rfl := Option.some.inj h
              exact g_iret F Rq rfl dX9_arc_96
        · refine g_iload F dX9_arc_55 0 rfl ?_
          refine g_goto F 96 dX9_arc_57 (by decide) ?_
          obtain rfl := Option.some.inj h
          exact g_iret F Rq rfl dX9_arc_96
      · refine g_bipush F (v := (-2 : Int32)) dX9_arc_40 (by decide) ?_
        obtain rfl := Option.some.inj h
        exact g_iret F Rq rfl dX9_arc_42
    · refine g_iconst F (v := (-1 : Int32)) dX9_arc_23 (by decide) ?_
      obtain rfl := Option.some.inj h
      exact g_iret F Rq rfl dX9_arc_24
theorem hi_X9_orders_X9 : ∀ w ∈ u_ws RX9 TX9 36, w ∈ wsX9_orders := by decide +kernel
theorem fl_X9_orders_75 : Cond.fieldLink RX9 75 "ArcOrderModel" "thrown" "I" ∈ wsX9_orders := by decide +kernel
theorem fl_X9_orders_53 : Cond.fieldLink RX9 53 "ArcOrderModel" "ways" "[J" ∈ wsX9_orders := by decide +kernel
abbrev rm_X9_orders : Room := { frames := 4, cells := 0, slots := 0, locals := 89 }
set_option maxHeartbeats 4000000 in
set_option maxRecDepth 100000 in
theorem ok_X9_orders (l : Launch) (D : va_G) (cy : Nat → ClassId) (am : Nat → Nat)  (Mm : ModS) (m_s : (Nat → Int32)) (m_ways : (Nat → Int64))  (out : Int64 × ModS × (Nat → Int64)) (h : f_X9_orders Mm m_s m_ways = some out) : OK l D cy yX9_orders wsX9_orders rm_X9_orders [.ref (am 0)] [(sMod cy am Mm), (sI cy (am 12) 24 m_s), (sJ cy (am 31) 4096 m_ways)] (some (.long out.1)) [(sMod cy am out.2.1), (sI cy (am 12) 24 m_s), (sJ cy (am 31) 4096 out.2.2)] := by
  refine OKx.of (cc := cX9_orders) (maxL := 1) (ret := (some .long)) (by decide) rfl (Nat.le_of_ble_eq_true rfl) (fun G F Rq => ?_)
  show Go G 0 0 0 [(0, .ref (am 0))] [] [(sMod cy am Mm), (sI cy (am 12) 24 m_s), (sJ cy (am 31) 4096 m_ways)]
  replace F : Fx G cX9_orders wsX9_orders RX9 cy 1 (rm_X9_orders) := F
  replace Rq : Rx G "orders" (some .long) (some (.long out.1)) (fun z => z = [(sMod cy am out.2.1), (sI cy (am 12) 24 m_s), (sJ cy (am 31) 4096 out.2.2)]) 0 0 := Rq
  unfold f_X9_orders at h
  refine g_aload_n F dX9_orders_0 rfl 0 rfl ?_
  refine g_iconst F (v := (0 : Int32)) dX9_orders_1 (by decide) ?_
  refine g_put F (C := RX9) (T := TX9) (N := 36) (ci := 9) (v := .int (0 : Int32)) (ty := .int) (sg' := [(sMod cy am (upd Mm 0 (0 : Int32))), (sI cy (am 12) 24 m_s), (sJ cy (am 31) 4096 m_ways)]) hi_X9_orders_X9 tyX9 tyX9_ok nmX9 0 0 0 dX9_orders_2 rfl rfl (by decide) fl_X9_orders_75 rfl rfl rfl rfl (Nat.le_of_ble_eq_true rfl) rfl ?_
  refine g_aload_n F dX9_orders_5 rfl 0 rfl ?_
  obtain ⟨r1, hr1, h⟩ := bnd h
  refine g_cV F [] 0 0 (ok_X9_counts (gl G) (gD G) cy am (upd Mm 0 (0 : Int32)) m_s m_ways r1 hr1) dX9_orders_6 rfl rfl gX9_orders_X9_counts rfl ⟨rfl, cd_X9_counts⟩ (by decide) rfl (Nat.le_of_ble_eq_true rfl) [0, 1, 2] (by decide) rfl rfl (sg' := [(sMod cy am (upd Mm 0 (0 : Int32))), (sI cy (am 12) 24 m_s), (sJ cy (am 31) 4096 r1)]) (st' := []) rfl rfl ?_
  refine g_aload_n F dX9_orders_9 rfl 0 rfl ?_
  refine g_get F (C := RX9) (T := TX9) (N := 36) (ci := 9) (v := .ref (am 31)) hi_X9_orders_X9 0 0 30 dX9_orders_10 rfl rfl (by decide) fl_X9_orders_53 rfl ?_
  refine g_iconst F (v := (0 : Int32)) dX9_orders_13 (by decide) ?_
  refine g_laload F h 2 0 dX9_orders_14 rfl (fun h => ?_)
  obtain rfl := Option.some.inj h
  exact g_lret F Rq rfl dX9_orders_15
theorem hi_X9_number_X9 : ∀ w ∈ u_ws RX9 TX9 36, w ∈ wsX9_number := by decide +kernel
theorem fl_X9_number_75 : Cond.fieldLink RX9 75 "ArcOrderModel" "thrown" "I" ∈ wsX9_number := by decide +kernel
theorem fl_X9_number_145 : Cond.fieldLink RX9 145 "ArcOrderModel" "items" "I" ∈ wsX9_number := by decide +kernel
theorem fl_X9_number_16 : Cond.fieldLink RX9 16 "ArcOrderModel" "s" "[I" ∈ wsX9_number := by decide +kernel
theorem fl_X9_number_53 : Cond.fieldLink RX9 53 "ArcOrderModel" "ways" "[J" ∈ wsX9_number := by decide +kernel
abbrev rm_X9_number : Room := { frames := 4, cells := 0, slots := 0, locals := 89 }
set_option maxHeartbeats 4000000 in
set_option maxRecDepth 100000 in
theorem k_X9_number_43_ok {G : GX} {cy : Nat → ClassId} (am : Nat → Nat)  (x3 : Int32) (x4 : Int32) (x5 : Int32) (Mm : ModS) (m_s : (Nat → Int32)) (m_ways : (Nat → Int64)) {out : Int64 × ModS × (Nat → Int64)} (F : Fx G cX9_number wsX9_number RX9 cy 7 (rm_X9_number)) (Rq : Rx G "number" (some .long) (some (.long out.1)) (fun z => z = [(sMod cy am out.2.1), (sI cy (am 12) 24 m_s), (sJ cy (am 31) 4096 out.2.2)]) 0 0) (ke : Int64 → Option (Int64 × ModS × (Nat → Int64))) (hke : ∀ (x1 : Int64) , ke x1 = some out → Go G 0 0 84 [(0, .ref (am 0)), (1, .long x1), (3, .int x3), (4, .int x4), (5, .int x5)] [] [(sMod cy am Mm), (sI cy (am 12) 24 m_s), (sJ cy (am 31) 4096 m_ways)]) : ∀ (n : Nat) (x1 : Int64) (x6 : Int32) , k_X9_number_43 x3 x4 x5 Mm m_s m_ways ke n x1 x6 = some out → Go G 0 0 43 [(0, .ref (am 0)), (1, .long x1), (3, .int x3), (4, .int x4), (5, .int x5), (6, .int x6)] [] [(sMod cy am Mm), (sI cy (am 12) 24 m_s), (sJ cy (am 31) 4096 m_ways)] := by
  intro n
  induction n with
  | zero =>
    intro x1 x6 h
    exact nosome h
  | succ n ih =>
    intro x1 x6 h
    rw [k_X9_number_43.eq_2] at h
    refine g_iload F dX9_number_43 5 rfl ?_
    refine g_iload F dX9_number_45 4 rfl ?_
    refine g_icmp_ge F 84 h dX9_number_47 (by decide) (fun h => ?_) (fun h => ?_)
    · refine Go.sub (lv' := [(0, .ref (am 0)), (1, .long x1), (3, .int x3), (4, .int x4), (5, .int x5)]) [0, 1, 2, 3, 4] rfl ?_
      exact hke x1 h
    · refine g_lload_n F dX9_number_50 rfl 1 rfl ?_
      refine g_aload_n F dX9_number_51 rfl 0 rfl ?_
      refine g_iload_n F dX9_number_52 rfl 2 rfl ?_
      refine g_iload F dX9_number_53 5 rfl ?_
      obtain ⟨r3, hr3, h⟩ := bnd h
      refine g_cV F [.int x3, .int x6] 0 0 (ok_X9_canNext (gl G) (gD G) cy am Mm m_s x3 x6 r3 hr3) dX9_number_55 rfl rfl gX9_number_X9_canNext rfl ⟨rfl, cd_X9_canNext⟩ (by decide) rfl (Nat.le_of_ble_eq_true rfl) [0, 1] (by decide) rfl rfl (sg' := [(sMod cy am Mm), (sI cy (am 12) 24 m_s), (sJ cy (am 31) 4096 m_ways)]) (st' := [.int r3, .long x1]) rfl rfl ?_
      refine g_if_eq F 75 h dX9_number_58 (by decide) (fun h => ?_) (fun h => ?_)
      · refine g_lconst F (v := (0 : Int64)) dX9_number_75 (by decide) ?_
        refine g_ladd F dX9_number_76 ?_
        refine g_lstore_n F (lv' := [(1, .long (x1 + (0 : Int64))), (0, .ref (am 0)), (3, .int x3), (4, .int x4), (5, .int x5), (6, .int x6)]) dX9_number_77 rfl (by decide) rfl ?_
        refine g_iinc F (v := (x6 + 1)) (lv' := [(6, .int (x6 + 1)), (1, .long (x1 + (0 : Int64))), (0, .ref (am 0)), (3, .int x3), (4, .int x4), (5, .int x5)]) dX9_number_78 5 rfl rfl (by decide) rfl ?_
        refine g_goto F 43 dX9_number_81 (by decide) ?_
        refine Go.sub (lv' := [(0, .ref (am 0)), (1, .long (x1 + (0 : Int64))), (3, .int x3), (4, .int x4), (5, .int x5), (6, .int (x6 + 1))]) [2, 1, 3, 4, 5, 0] rfl ?_
        exact ih (x1 + (0 : Int64)) (x6 + 1) h
      · refine g_aload_n F dX9_number_61 rfl 0 rfl ?_
        refine g_get F (C := RX9) (T := TX9) (N := 36) (ci := 9) (v := .ref (am 31)) hi_X9_number_X9 0 0 30 dX9_number_62 rfl rfl (by decide) fl_X9_number_53 rfl ?_
        refine g_iload_n F dX9_number_65 rfl 2 rfl ?_
        refine g_iconst F (v := (1 : Int32)) dX9_number_66 (by decide) ?_
        refine g_iload F dX9_number_67 5 rfl ?_
        refine g_ishl F dX9_number_69 ?_
        refine g_ior F dX9_number_70 ?_
        refine g_laload F h 2 0 dX9_number_71 rfl (fun h => ?_)
        refine g_goto F 76 dX9_number_72 (by decide) ?_
        refine g_ladd F dX9_number_76 ?_
        refine g_lstore_n F (lv' := [(1, .long (x1 + (m_ways ((x3 ||| ((1 : Int32) <<< (x6 &&& 31)))).toNatClampNeg))), (0, .ref (am 0)), (3, .int x3), (4, .int x4), (5, .int x5), (6, .int x6)]) dX9_number_77 rfl (by decide) rfl ?_
        refine g_iinc F (v := (x6 + 1)) (lv' := [(6, .int (x6 + 1)), (1, .long (x1 + (m_ways ((x3 ||| ((1 : Int32) <<< (x6 &&& 31)))).toNatClampNeg))), (0, .ref (am 0)), (3, .int x3), (4, .int x4), (5, .int x5)]) dX9_number_78 5 rfl rfl (by decide) rfl ?_
        refine g_goto F 43 dX9_number_81 (by decide) ?_
        refine Go.sub (lv' := [(0, .ref (am 0)), (1, .long (x1 + (m_ways ((x3 ||| ((1 : Int32) <<< (x6 &&& 31)))).toNatClampNeg))), (3, .int x3), (4, .int x4), (5, .int x5), (6, .int (x6 + 1))]) [2, 1, 3, 4, 5, 0] rfl ?_
        exact ih (x1 + (m_ways ((x3 ||| ((1 : Int32) <<< (x6 &&& 31)))).toNatClampNeg)) (x6 + 1) h
set_option maxHeartbeats 4000000 in
set_option maxRecDepth 100000 in
theorem k_X9_number_16_ok {G : GX} {cy : Nat → ClassId} (am : Nat → Nat)   (Mm : ModS) (m_s : (Nat → Int32)) (m_ways : (Nat → Int64)) {out : Int64 × ModS × (Nat → Int64)} (F : Fx G cX9_number wsX9_number RX9 cy 7 (rm_X9_number)) (Rq : Rx G "number" (some .long) (some (.long out.1)) (fun z => z = [(sMod cy am out.2.1), (sI cy (am 12) 24 m_s), (sJ cy (am 31) 4096 out.2.2)]) 0 0) (ke : Int64 → Option (Int64 × ModS × (Nat → Int64))) (hke : ∀ (x1 : Int64) , ke x1 = some out → Go G 0 0 97 [(1, .long x1)] [] [(sMod cy am Mm), (sI cy (am 12) 24 m_s), (sJ cy (am 31) 4096 m_ways)]) : ∀ (n : Nat) (x1 : Int64) (x3 : Int32) (x4 : Int32) , k_X9_number_16 Mm m_s m_ways ke n x1 x3 x4 = some out → Go G 0 0 16 [(0, .ref (am 0)), (1, .long x1), (3, .int x3), (4, .int x4)] [] [(sMod cy am Mm), (sI cy (am 12) 24 m_s), (sJ cy (am 31) 4096 m_ways)] := by
  intro n
  induction n with
  | zero =>
    intro x1 x3 x4 h
    exact nosome h
  | succ n ih =>
    intro x1 x3 x4 h
    rw [k_X9_number_16.eq_2] at h
    refine g_iload F dX9_number_16 3 rfl ?_
    refine g_aload_n F dX9_number_18 rfl 0 rfl ?_
    refine g_get F (C := RX9) (T := TX9) (N := 36) (ci := 9) (v := .int (Mm 8)) hi_X9_number_X9 0 0 8 dX9_number_19 rfl rfl (by decide) fl_X9_number_145 rfl ?_
    refine g_icmp_ge F 97 h dX9_number_22 (by decide) (fun h => ?_) (fun h => ?_)
    · refine Go.sub (lv' := [(1, .long x1)]) [1] rfl ?_
      exact hke x1 h
    · refine g_aload_n F dX9_number_25 rfl 0 rfl ?_
      refine g_get F (C := RX9) (T := TX9) (N := 36) (ci := 9) (v := .ref (am 12)) hi_X9_number_X9 0 0 11 dX9_number_26 rfl rfl (by decide) fl_X9_number_16 rfl ?_
      refine g_aload_n F dX9_number_29 rfl 0 rfl ?_
      refine g_get F (C := RX9) (T := TX9) (N := 36) (ci := 9) (v := .int (Mm 8)) hi_X9_number_X9 0 0 8 dX9_number_30 rfl rfl (by decide) fl_X9_number_145 rfl ?_
      refine g_iload F dX9_number_33 3 rfl ?_
      obtain ⟨r2, hr2, h⟩ := bnd h
      refine g_cS F [.ref (am 12), .int (Mm 8), .int x4] (ok_X9_itemAt (gl G) (gD G) cy (am 12) m_s (Mm 8) x4 r2 hr2) dX9_number_35 gX9_number_X9_itemAt rfl cd_X9_itemAt (by decide) rfl (Nat.le_of_ble_eq_true rfl) [1] (by decide) rfl rfl (sg' := [(sMod cy am Mm), (sI cy (am 12) 24 m_s), (sJ cy (am 31) 4096 m_ways)]) (st' := [.int r2]) rfl rfl ?_
      refine g_istore F (lv' := [(5, .int r2), (0, .ref (am 0)), (1, .long x1), (3, .int x3), (4, .int x4)]) dX9_number_38 (by decide) rfl ?_
      refine g_iconst F (v := (0 : Int32)) dX9_number_40 (by decide) ?_
      refine g_istore F (lv' := [(6, .int (0 : Int32)), (5, .int r2), (0, .ref (am 0)), (1, .long x1), (3, .int x3), (4, .int x4)]) dX9_number_41 (by decide) rfl ?_
      refine Go.sub (lv' := [(0, .ref (am 0)), (1, .long x1), (3, .int x3), (4, .int x4), (5, .int r2), (6, .int (0 : Int32))]) [2, 3, 4, 5, 1, 0] rfl ?_
      refine k_X9_number_43_ok am x3 x4 r2 Mm m_s m_ways F Rq _ (fun x1_4 h => ?_) _ x1 (0 : Int32) h
      refine g_iload_n F dX9_number_84 rfl 2 rfl ?_
      refine g_iconst F (v := (1 : Int32)) dX9_number_85 (by decide) ?_
      refine g_iload F dX9_number_86 4 rfl ?_
      refine g_ishl F dX9_number_88 ?_
      refine g_ior F dX9_number_89 ?_
      refine g_istore_n F (lv' := [(3, .int (x3 ||| ((1 : Int32) <<< (r2 &&& 31)))), (0, .ref (am 0)), (1, .long x1_4), (4, .int x4), (5, .int r2)]) dX9_number_90 rfl (by decide) rfl ?_
      refine g_iinc F (v := (x4 + 1)) (lv' := [(4, .int (x4 + 1)), (3, .int (x3 ||| ((1 : Int32) <<< (r2 &&& 31)))), (0, .ref (am 0)), (1, .long x1_4), (5, .int r2)]) dX9_number_91 3 rfl rfl (by decide) rfl ?_
      refine g_goto F 16 dX9_number_94 (by decide) ?_
      refine Go.sub (lv' := [(0, .ref (am 0)), (1, .long x1_4), (3, .int (x3 ||| ((1 : Int32) <<< (r2 &&& 31)))), (4, .int (x4 + 1))]) [2, 3, 1, 0] rfl ?_
      exact ih x1_4 (x3 ||| ((1 : Int32) <<< (r2 &&& 31))) (x4 + 1) h
set_option maxHeartbeats 4000000 in
set_option maxRecDepth 100000 in
theorem ok_X9_number (l : Launch) (D : va_G) (cy : Nat → ClassId) (am : Nat → Nat)  (Mm : ModS) (m_s : (Nat → Int32)) (m_ways : (Nat → Int64))  (out : Int64 × ModS × (Nat → Int64)) (h : f_X9_number Mm m_s m_ways = some out) : OK l D cy yX9_number wsX9_number rm_X9_number [.ref (am 0)] [(sMod cy am Mm), (sI cy (am 12) 24 m_s), (sJ cy (am 31) 4096 m_ways)] (some (.long out.1)) [(sMod cy am out.2.1), (sI cy (am 12) 24 m_s), (sJ cy (am 31) 4096 out.2.2)] := by
  refine OKx.of (cc := cX9_number) (maxL := 7) (ret := (some .long)) (by decide) rfl (Nat.le_of_ble_eq_true rfl) (fun G F Rq => ?_)
  show Go G 0 0 0 [(0, .ref (am 0))] [] [(sMod cy am Mm), (sI cy (am 12) 24 m_s), (sJ cy (am 31) 4096 m_ways)]
  replace F : Fx G cX9_number wsX9_number RX9 cy 7 (rm_X9_number) := F
  replace Rq : Rx G "number" (some .long) (some (.long out.1)) (fun z => z = [(sMod cy am out.2.1), (sI cy (am 12) 24 m_s), (sJ cy (am 31) 4096 out.2.2)]) 0 0 := Rq
  unfold f_X9_number at h
  refine g_aload_n F dX9_number_0 rfl 0 rfl ?_
  refine g_iconst F (v := (0 : Int32)) dX9_number_1 (by decide) ?_
  refine g_put F (C := RX9) (T := TX9) (N := 36) (ci := 9) (v := .int (0 : Int32)) (ty := .int) (sg' := [(sMod cy am (upd Mm 0 (0 : Int32))), (sI cy (am 12) 24 m_s), (sJ cy (am 31) 4096 m_ways)]) hi_X9_number_X9 tyX9 tyX9_ok nmX9 0 0 0 dX9_number_2 rfl rfl (by decide) fl_X9_number_75 rfl rfl rfl rfl (Nat.le_of_ble_eq_true rfl) rfl ?_
  refine g_aload_n F dX9_number_5 rfl 0 rfl ?_
  obtain ⟨r1, hr1, h⟩ := bnd h
  refine g_cV F [] 0 0 (ok_X9_counts (gl G) (gD G) cy am (upd Mm 0 (0 : Int32)) m_s m_ways r1 hr1) dX9_number_6 rfl rfl gX9_number_X9_counts rfl ⟨rfl, cd_X9_counts⟩ (by decide) rfl (Nat.le_of_ble_eq_true rfl) [0, 1, 2] (by decide) rfl rfl (sg' := [(sMod cy am (upd Mm 0 (0 : Int32))), (sI cy (am 12) 24 m_s), (sJ cy (am 31) 4096 r1)]) (st' := []) rfl rfl ?_
  refine g_lconst F (v := (0 : Int64)) dX9_number_9 (by decide) ?_
  refine g_lstore_n F (lv' := [(1, .long (0 : Int64)), (0, .ref (am 0))]) dX9_number_10 rfl (by decide) rfl ?_
  refine g_iconst F (v := (0 : Int32)) dX9_number_11 (by decide) ?_
  refine g_istore_n F (lv' := [(3, .int (0 : Int32)), (1, .long (0 : Int64)), (0, .ref (am 0))]) dX9_number_12 rfl (by decide) rfl ?_
  refine g_iconst F (v := (0 : Int32)) dX9_number_13 (by decide) ?_
  refine g_istore F (lv' := [(4, .int (0 : Int32)), (3, .int (0 : Int32)), (1, .long (0 : Int64)), (0, .ref (am 0))]) dX9_number_14 (by decide) rfl ?_
  refine Go.sub (lv' := [(0, .ref (am 0)), (1, .long (0 : Int64)), (3, .int (0 : Int32)), (4, .int (0 : Int32))]) [3, 2, 1, 0] rfl ?_
  refine k_X9_number_16_ok am (upd Mm 0 (0 : Int32)) m_s r1 F Rq _ (fun x1_5 h => ?_) _ (0 : Int64) (0 : Int32) (0 : Int32) h
  refine g_lload_n F dX9_number_97 rfl 0 rfl ?_
  obtain rfl := Option.some.inj h
  exact g_lret F Rq rfl dX9_number_98
theorem hi_X9_kth_X9 : ∀ w ∈ u_ws RX9 TX9 36, w ∈ wsX9_kth := by decide +kernel
theorem fl_X9_kth_75 : Cond.fieldLink RX9 75 "ArcOrderModel" "thrown" "I" ∈ wsX9_kth := by decide +kernel
theorem fl_X9_kth_53 : Cond.fieldLink RX9 53 "ArcOrderModel" "ways" "[J" ∈ wsX9_kth := by decide +kernel
theorem fl_X9_kth_60 : Cond.fieldLink RX9 60 "ArcOrderModel" "order" "[I" ∈ wsX9_kth := by decide +kernel
abbrev rm_X9_kth : Room := { frames := 4, cells := 0, slots := 0, locals := 93 }
set_option maxHeartbeats 4000000 in
set_option maxRecDepth 100000 in
theorem ok_X9_kth (l : Launch) (D : va_G) (cy : Nat → ClassId) (am : Nat → Nat)  (Mm : ModS) (m_s : (Nat → Int32)) (m_ways : (Nat → Int64)) (m_order : (Nat → Int32)) (x1 : Int64) (x3 : Int32) (out : Int32 × ModS × (Nat → Int64) × (Nat → Int32)) (h : f_X9_kth Mm m_s m_ways m_order x1 x3 = some out) : OK l D cy yX9_kth wsX9_kth rm_X9_kth [.ref (am 0), .long x1, .int x3] [(sMod cy am Mm), (sI cy (am 12) 24 m_s), (sJ cy (am 31) 4096 m_ways), (sI cy (am 33) 12 m_order)] (some (.int out.1)) [(sMod cy am out.2.1), (sI cy (am 12) 24 m_s), (sJ cy (am 31) 4096 out.2.2.1), (sI cy (am 33) 12 out.2.2.2)] := by
  refine OKx.of (cc := cX9_kth) (maxL := 4) (ret := (some .int)) (by decide) rfl (Nat.le_of_ble_eq_true rfl) (fun G F Rq => ?_)
  show Go G 0 0 0 [(0, .ref (am 0)), (1, .long x1), (3, .int x3)] [] [(sMod cy am Mm), (sI cy (am 12) 24 m_s), (sJ cy (am 31) 4096 m_ways), (sI cy (am 33) 12 m_order)]
  replace F : Fx G cX9_kth wsX9_kth RX9 cy 4 (rm_X9_kth) := F
  replace Rq : Rx G "kth" (some .int) (some (.int out.1)) (fun z => z = [(sMod cy am out.2.1), (sI cy (am 12) 24 m_s), (sJ cy (am 31) 4096 out.2.2.1), (sI cy (am 33) 12 out.2.2.2)]) 0 0 := Rq
  unfold f_X9_kth at h
  refine g_aload_n F dX9_kth_0 rfl 0 rfl ?_
  refine g_iconst F (v := (0 : Int32)) dX9_kth_1 (by decide) ?_
  refine g_put F (C := RX9) (T := TX9) (N := 36) (ci := 9) (v := .int (0 : Int32)) (ty := .int) (sg' := [(sMod cy am (upd Mm 0 (0 : Int32))), (sI cy (am 12) 24 m_s), (sJ cy (am 31) 4096 m_ways), (sI cy (am 33) 12 m_order)]) hi_X9_kth_X9 tyX9 tyX9_ok nmX9 0 0 0 dX9_kth_2 rfl rfl (by decide) fl_X9_kth_75 rfl rfl rfl rfl (Nat.le_of_ble_eq_true rfl) rfl ?_
  refine g_lload_n F dX9_kth_5 rfl 1 rfl ?_
  refine g_lconst F (v := (0 : Int64)) dX9_kth_6 (by decide) ?_
  refine g_lcmp F dX9_kth_7 ?_
  refine g_if_lt F 19 h dX9_kth_8 (by decide) (fun h => ?_) (fun h => ?_)
  · refine g_iconst F (v := (-1 : Int32)) dX9_kth_19 (by decide) ?_
    obtain rfl := Option.some.inj h
    exact g_iret F Rq rfl dX9_kth_20
  · refine g_aload_n F dX9_kth_11 rfl 0 rfl ?_
    refine g_iload_n F dX9_kth_12 rfl 2 rfl ?_
    obtain ⟨r1, hr1, h⟩ := bnd h
    refine g_cV F [.int x3] 0 0 (ok_X9_isItem (gl G) (gD G) cy am (upd Mm 0 (0 : Int32)) x3 r1 hr1) dX9_kth_13 rfl rfl gX9_kth_X9_isItem rfl ⟨rfl, cd_X9_isItem⟩ (by decide) rfl (Nat.le_of_ble_eq_true rfl) [0] (by decide) rfl rfl (sg' := [(sMod cy am (upd Mm 0 (0 : Int32))), (sI cy (am 12) 24 m_s), (sJ cy (am 31) 4096 m_ways), (sI cy (am 33) 12 m_order)]) (st' := [.int r1]) rfl rfl ?_
    refine g_if_ne F 21 h dX9_kth_16 (by decide) (fun h => ?_) (fun h => ?_)
    · refine g_aload_n F dX9_kth_21 rfl 0 rfl ?_
      obtain ⟨r2, hr2, h⟩ := bnd h
      refine g_cV F [] 0 0 (ok_X9_counts (gl G) (gD G) cy am (upd Mm 0 (0 : Int32)) m_s m_ways r2 hr2) dX9_kth_22 rfl rfl gX9_kth_X9_counts rfl ⟨rfl, cd_X9_counts⟩ (by decide) rfl (Nat.le_of_ble_eq_true rfl) [0, 1, 2] (by decide) rfl rfl (sg' := [(sMod cy am (upd Mm 0 (0 : Int32))), (sI cy (am 12) 24 m_s), (sJ cy (am 31) 4096 r2), (sI cy (am 33) 12 m_order)]) (st' := []) rfl rfl ?_
      refine g_lload_n F dX9_kth_25 rfl 1 rfl ?_
      refine g_aload_n F dX9_kth_26 rfl 0 rfl ?_
      refine g_get F (C := RX9) (T := TX9) (N := 36) (ci := 9) (v := .ref (am 31)) hi_X9_kth_X9 0 0 30 dX9_kth_27 rfl rfl (by decide) fl_X9_kth_53 rfl ?_
      refine g_iconst F (v := (0 : Int32)) dX9_kth_30 (by decide) ?_
      refine g_laload F h 2 0 dX9_kth_31 rfl (fun h => ?_)
      refine g_lcmp F dX9_kth_32 ?_
      refine g_if_lt F 39 h dX9_kth_33 (by decide) (fun h => ?_) (fun h => ?_)
      · refine g_aload_n F dX9_kth_39 rfl 0 rfl ?_
        refine g_lload_n F dX9_kth_40 rfl 1 rfl ?_
        obtain ⟨r3, hr3, h⟩ := bnd h
        refine g_cV F [.long x1] 0 0 (ok_X9_orderOf (gl G) (gD G) cy am (upd Mm 0 (0 : Int32)) m_s r2 m_order x1 r3 hr3) dX9_kth_41 rfl rfl gX9_kth_X9_orderOf rfl ⟨rfl, cd_X9_orderOf⟩ (by decide) rfl (Nat.le_of_ble_eq_true rfl) [0, 1, 2, 3] (by decide) rfl rfl (sg' := [(sMod cy am (upd Mm 0 (0 : Int32))), (sI cy (am 12) 24 m_s), (sJ cy (am 31) 4096 r2), (sI cy (am 33) 12 r3)]) (st' := []) rfl rfl ?_
        refine g_aload_n F dX9_kth_44 rfl 0 rfl ?_
        refine g_get F (C := RX9) (T := TX9) (N := 36) (ci := 9) (v := .ref (am 33)) hi_X9_kth_X9 0 0 32 dX9_kth_45 rfl rfl (by decide) fl_X9_kth_60 rfl ?_
        refine g_iload_n F dX9_kth_48 rfl 2 rfl ?_
        refine g_iaload F h 3 0 dX9_kth_49 rfl (fun h => ?_)
        obtain rfl := Option.some.inj h
        exact g_iret F Rq rfl dX9_kth_50
      · refine g_bipush F (v := (-9 : Int32)) dX9_kth_36 (by decide) ?_
        obtain rfl := Option.some.inj h
        exact g_iret F Rq rfl dX9_kth_38
    · refine g_iconst F (v := (-1 : Int32)) dX9_kth_19 (by decide) ?_
      obtain rfl := Option.some.inj h
      exact g_iret F Rq rfl dX9_kth_20
theorem hi_X9_makes_X9 : ∀ w ∈ u_ws RX9 TX9 36, w ∈ wsX9_makes := by decide +kernel
theorem fl_X9_makes_57 : Cond.fieldLink RX9 57 "ArcOrderModel" "day" "[I" ∈ wsX9_makes := by decide +kernel
abbrev rm_X9_makes : Room := { frames := 1, cells := 0, slots := 0, locals := 22 }
set_option maxHeartbeats 4000000 in
set_option maxRecDepth 100000 in
theorem k_X9_makes_3_ok {G : GX} {cy : Nat → ClassId} (am : Nat → Nat)  (x1 : Int32) (x2 : Int32) (x3 : Int32) (Mm : ModS) {out : (Nat → Int32)} (F : Fx G cX9_makes wsX9_makes RX9 cy 6 (rm_X9_makes)) (Rq : Rx G "makes" none none (fun z => z = [(sMod cy am Mm), (sI cy (am 32) 4096 out)]) 0 0) (ke : (Nat → Int32) → Option ((Nat → Int32))) (hke : ∀  (m_day : (Nat → Int32)), ke m_day = some out → Go G 0 0 67 [] [] [(sMod cy am Mm), (sI cy (am 32) 4096 m_day)]) : ∀ (n : Nat) (x4 : Int32) (m_day : (Nat → Int32)), k_X9_makes_3 x1 x2 x3 Mm ke n x4 m_day = some out → Go G 0 0 3 [(0, .ref (am 0)), (1, .int x1), (2, .int x2), (3, .int x3), (4, .int x4)] [] [(sMod cy am Mm), (sI cy (am 32) 4096 m_day)] := by
  intro n
  induction n with
  | zero =>
    intro x4 m_day h
    exact nosome h
  | succ n ih =>
    intro x4 m_day h
    rw [k_X9_makes_3.eq_2] at h
    refine g_iload F dX9_makes_3 4 rfl ?_
    refine g_if_eq F 67 h dX9_makes_5 (by decide) (fun h => ?_) (fun h => ?_)
    · refine Go.sub (lv' := []) [] rfl ?_
      exact hke m_day h
    · refine g_iload_n F dX9_makes_8 rfl 1 rfl ?_
      refine g_iload F dX9_makes_9 4 rfl ?_
      refine g_ior F dX9_makes_11 ?_
      refine g_istore F (lv' := [(5, .int (x1 ||| x4)), (0, .ref (am 0)), (1, .int x1), (2, .int x2), (3, .int x3), (4, .int x4)]) dX9_makes_12 (by decide) rfl ?_
      refine g_iload F dX9_makes_14 5 rfl ?_
      obtain ⟨r1, hr1, h⟩ := bnd h
      refine g_cS F [.int x4] (ok_X9_ones (gl G) (gD G) cy x4 r1 hr1) dX9_makes_16 gX9_makes_X9_ones rfl cd_X9_ones (by decide) rfl (Nat.le_of_ble_eq_true rfl) [] (by decide) rfl rfl (sg' := [(sMod cy am Mm), (sI cy (am 32) 4096 m_day)]) (st' := [.int r1]) rfl rfl ?_
      refine g_iload_n F dX9_makes_19 rfl 4 rfl ?_
      refine g_icmp_gt F 56 h dX9_makes_20 (by decide) (fun h => ?_) (fun h => ?_)
      · refine g_iload F dX9_makes_56 5 rfl ?_
        refine g_iconst F (v := (1 : Int32)) dX9_makes_58 (by decide) ?_
        refine g_isub F dX9_makes_59 ?_
        refine g_iload_n F dX9_makes_60 rfl 3 rfl ?_
        refine g_iand F dX9_makes_61 ?_
        refine g_istore F (lv' := [(4, .int ((x4 - (1 : Int32)) &&& x2)), (5, .int (x1 ||| x4)), (0, .ref (am 0)), (1, .int x1), (2, .int x2), (3, .int x3)]) dX9_makes_62 (by decide) rfl ?_
        refine g_goto F 3 dX9_makes_64 (by decide) ?_
        refine Go.sub (lv' := [(0, .ref (am 0)), (1, .int x1), (2, .int x2), (3, .int x3), (4, .int ((x4 - (1 : Int32)) &&& x2))]) [2, 3, 4, 5, 0] rfl ?_
        exact ih ((x4 - (1 : Int32)) &&& x2) m_day h
      · refine g_aload_n F dX9_makes_23 rfl 1 rfl ?_
        refine g_get F (C := RX9) (T := TX9) (N := 36) (ci := 9) (v := .ref (am 32)) hi_X9_makes_X9 0 0 31 dX9_makes_24 rfl rfl (by decide) fl_X9_makes_57 rfl ?_
        refine g_iload F dX9_makes_27 0 rfl ?_
        refine g_iaload F h 1 0 dX9_makes_29 rfl (fun h => ?_)
        refine g_aload_n F dX9_makes_30 rfl 1 rfl ?_
        refine g_get F (C := RX9) (T := TX9) (N := 36) (ci := 9) (v := .ref (am 32)) hi_X9_makes_X9 0 0 31 dX9_makes_31 rfl rfl (by decide) fl_X9_makes_57 rfl ?_
        refine g_iload_n F dX9_makes_34 rfl 2 rfl ?_
        refine g_iaload F h 1 0 dX9_makes_35 rfl (fun h => ?_)
        refine g_iconst F (v := (1 : Int32)) dX9_makes_36 (by decide) ?_
        refine g_iadd F dX9_makes_37 ?_
        refine g_icmp_le F 56 h dX9_makes_38 (by decide) (fun h => ?_) (fun h => ?_)
        · refine g_iload F dX9_makes_56 5 rfl ?_
          refine g_iconst F (v := (1 : Int32)) dX9_makes_58 (by decide) ?_
          refine g_isub F dX9_makes_59 ?_
          refine g_iload_n F dX9_makes_60 rfl 3 rfl ?_
          refine g_iand F dX9_makes_61 ?_
          refine g_istore F (lv' := [(4, .int ((x4 - (1 : Int32)) &&& x2)), (5, .int (x1 ||| x4)), (0, .ref (am 0)), (1, .int x1), (2, .int x2), (3, .int x3)]) dX9_makes_62 (by decide) rfl ?_
          refine g_goto F 3 dX9_makes_64 (by decide) ?_
          refine Go.sub (lv' := [(0, .ref (am 0)), (1, .int x1), (2, .int x2), (3, .int x3), (4, .int ((x4 - (1 : Int32)) &&& x2))]) [2, 3, 4, 5, 0] rfl ?_
          exact ih ((x4 - (1 : Int32)) &&& x2) m_day h
        · refine g_aload_n F dX9_makes_41 rfl 1 rfl ?_
          refine g_get F (C := RX9) (T := TX9) (N := 36) (ci := 9) (v := .ref (am 32)) hi_X9_makes_X9 0 0 31 dX9_makes_42 rfl rfl (by decide) fl_X9_makes_57 rfl ?_
          refine g_iload F dX9_makes_45 0 rfl ?_
          refine g_aload_n F dX9_makes_47 rfl 1 rfl ?_
          refine g_get F (C := RX9) (T := TX9) (N := 36) (ci := 9) (v := .ref (am 32)) hi_X9_makes_X9 0 0 31 dX9_makes_48 rfl rfl (by decide) fl_X9_makes_57 rfl ?_
          refine g_iload_n F dX9_makes_51 rfl 2 rfl ?_
          refine g_iaload F h 1 0 dX9_makes_52 rfl (fun h => ?_)
          refine g_iconst F (v := (1 : Int32)) dX9_makes_53 (by decide) ?_
          refine g_iadd F dX9_makes_54 ?_
          refine g_iastore F h (sg' := [(sMod cy am Mm), (sI cy (am 32) 4096 (upd m_day ((x1 ||| x4)).toNatClampNeg ((m_day (x1).toNatClampNeg) + (1 : Int32))))]) 1 0 dX9_makes_55 rfl rfl (fun h => ?_)
          refine g_iload F dX9_makes_56 5 rfl ?_
          refine g_iconst F (v := (1 : Int32)) dX9_makes_58 (by decide) ?_
          refine g_isub F dX9_makes_59 ?_
          refine g_iload_n F dX9_makes_60 rfl 3 rfl ?_
          refine g_iand F dX9_makes_61 ?_
          refine g_istore F (lv' := [(4, .int ((x4 - (1 : Int32)) &&& x2)), (5, .int (x1 ||| x4)), (0, .ref (am 0)), (1, .int x1), (2, .int x2), (3, .int x3)]) dX9_makes_62 (by decide) rfl ?_
          refine g_goto F 3 dX9_makes_64 (by decide) ?_
          refine Go.sub (lv' := [(0, .ref (am 0)), (1, .int x1), (2, .int x2), (3, .int x3), (4, .int ((x4 - (1 : Int32)) &&& x2))]) [2, 3, 4, 5, 0] rfl ?_
          exact ih ((x4 - (1 : Int32)) &&& x2) (upd m_day ((x1 ||| x4)).toNatClampNeg ((m_day (x1).toNatClampNeg) + (1 : Int32))) h
set_option maxHeartbeats 4000000 in
set_option maxRecDepth 100000 in
theorem ok_X9_makes (l : Launch) (D : va_G) (cy : Nat → ClassId) (am : Nat → Nat)  (Mm : ModS) (m_day : (Nat → Int32)) (x1 : Int32) (x2 : Int32) (x3 : Int32) (out : (Nat → Int32)) (h : f_X9_makes Mm m_day x1 x2 x3 = some out) : OK l D cy yX9_makes wsX9_makes rm_X9_makes [.ref (am 0), .int x1, .int x2, .int x3] [(sMod cy am Mm), (sI cy (am 32) 4096 m_day)] none [(sMod cy am Mm), (sI cy (am 32) 4096 out)] := by
  refine OKx.of (cc := cX9_makes) (maxL := 6) (ret := none) (by decide) rfl (Nat.le_of_ble_eq_true rfl) (fun G F Rq => ?_)
  show Go G 0 0 0 [(0, .ref (am 0)), (1, .int x1), (2, .int x2), (3, .int x3)] [] [(sMod cy am Mm), (sI cy (am 32) 4096 m_day)]
  replace F : Fx G cX9_makes wsX9_makes RX9 cy 6 (rm_X9_makes) := F
  replace Rq : Rx G "makes" none none (fun z => z = [(sMod cy am Mm), (sI cy (am 32) 4096 out)]) 0 0 := Rq
  unfold f_X9_makes at h
  refine g_iload_n F dX9_makes_0 rfl 2 rfl ?_
  refine g_istore F (lv' := [(4, .int x2), (0, .ref (am 0)), (1, .int x1), (2, .int x2), (3, .int x3)]) dX9_makes_1 (by decide) rfl ?_
  refine Go.sub (lv' := [(0, .ref (am 0)), (1, .int x1), (2, .int x2), (3, .int x3), (4, .int x2)]) [1, 2, 3, 4, 0] rfl ?_
  refine k_X9_makes_3_ok am x1 x2 x3 Mm F Rq _ (fun m_day_2 h => ?_) _ x2 m_day h
  obtain rfl := Option.some.inj h
  exact g_vret F Rq rfl dX9_makes_67
theorem hi_X9_days_X9 : ∀ w ∈ u_ws RX9 TX9 36, w ∈ wsX9_days := by decide +kernel
theorem fl_X9_days_75 : Cond.fieldLink RX9 75 "ArcOrderModel" "thrown" "I" ∈ wsX9_days := by decide +kernel
theorem fl_X9_days_145 : Cond.fieldLink RX9 145 "ArcOrderModel" "items" "I" ∈ wsX9_days := by decide +kernel
theorem fl_X9_days_57 : Cond.fieldLink RX9 57 "ArcOrderModel" "day" "[I" ∈ wsX9_days := by decide +kernel
abbrev rm_X9_days : Room := { frames := 3, cells := 0, slots := 0, locals := 66 }
set_option maxHeartbeats 4000000 in
set_option maxRecDepth 100000 in
theorem k_X9_days_27_ok {G : GX} {cy : Nat → ClassId} (am : Nat → Nat)  (x1 : Int32) (x2 : Int32) (Mm : ModS) (m_s : (Nat → Int32)) {out : Int32 × ModS × (Nat → Int32)} (F : Fx G cX9_days wsX9_days RX9 cy 6 (rm_X9_days)) (Rq : Rx G "days" (some .int) (some (.int out.1)) (fun z => z = [(sMod cy am out.2.1), (sI cy (am 12) 24 m_s), (sI cy (am 32) 4096 out.2.2)]) 0 0) (ke : (Nat → Int32) → Option (Int32 × ModS × (Nat → Int32))) (hke : ∀  (m_day : (Nat → Int32)), ke m_day = some out → Go G 0 0 54 [(0, .ref (am 0)), (1, .int x1), (2, .int x2)] [] [(sMod cy am Mm), (sI cy (am 12) 24 m_s), (sI cy (am 32) 4096 m_day)]) : ∀ (n : Nat) (x3 : Int32) (m_day : (Nat → Int32)), k_X9_days_27 x1 x2 Mm m_s ke n x3 m_day = some out → Go G 0 0 27 [(0, .ref (am 0)), (1, .int x1), (2, .int x2), (3, .int x3)] [] [(sMod cy am Mm), (sI cy (am 12) 24 m_s), (sI cy (am 32) 4096 m_day)] := by
  intro n
  induction n with
  | zero =>
    intro x3 m_day h
    exact nosome h
  | succ n ih =>
    intro x3 m_day h
    rw [k_X9_days_27.eq_2] at h
    refine g_iload_n F dX9_days_27 rfl 3 rfl ?_
    refine g_iload_n F dX9_days_28 rfl 2 rfl ?_
    refine g_icmp_gt F 54 h dX9_days_29 (by decide) (fun h => ?_) (fun h => ?_)
    · refine Go.sub (lv' := [(0, .ref (am 0)), (1, .int x1), (2, .int x2)]) [0, 1, 2] rfl ?_
      exact hke m_day h
    · refine g_aload_n F dX9_days_32 rfl 0 rfl ?_
      refine g_get F (C := RX9) (T := TX9) (N := 36) (ci := 9) (v := .ref (am 32)) hi_X9_days_X9 0 0 31 dX9_days_33 rfl rfl (by decide) fl_X9_days_57 rfl ?_
      refine g_iload_n F dX9_days_36 rfl 3 rfl ?_
      refine g_iload_n F dX9_days_37 rfl 3 rfl ?_
      refine g_if_ne F 45 h dX9_days_38 (by decide) (fun h => ?_) (fun h => ?_)
      · refine g_bipush F (v := (99 : Int32)) dX9_days_45 (by decide) ?_
        refine g_iastore F h (sg' := [(sMod cy am Mm), (sI cy (am 12) 24 m_s), (sI cy (am 32) 4096 (upd m_day (x3).toNatClampNeg (99 : Int32)))]) 2 0 dX9_days_47 rfl rfl (fun h => ?_)
        refine g_iinc F (v := (x3 + 1)) (lv' := [(3, .int (x3 + 1)), (0, .ref (am 0)), (1, .int x1), (2, .int x2)]) dX9_days_48 3 rfl rfl (by decide) rfl ?_
        refine g_goto F 27 dX9_days_51 (by decide) ?_
        refine Go.sub (lv' := [(0, .ref (am 0)), (1, .int x1), (2, .int x2), (3, .int (x3 + 1))]) [1, 2, 3, 0] rfl ?_
        exact ih (x3 + 1) (upd m_day (x3).toNatClampNeg (99 : Int32)) h
      · refine g_iconst F (v := (0 : Int32)) dX9_days_41 (by decide) ?_
        refine g_goto F 47 dX9_days_42 (by decide) ?_
        refine g_iastore F h (sg' := [(sMod cy am Mm), (sI cy (am 12) 24 m_s), (sI cy (am 32) 4096 (upd m_day (x3).toNatClampNeg (0 : Int32)))]) 2 0 dX9_days_47 rfl rfl (fun h => ?_)
        refine g_iinc F (v := (x3 + 1)) (lv' := [(3, .int (x3 + 1)), (0, .ref (am 0)), (1, .int x1), (2, .int x2)]) dX9_days_48 3 rfl rfl (by decide) rfl ?_
        refine g_goto F 27 dX9_days_51 (by decide) ?_
        refine Go.sub (lv' := [(0, .ref (am 0)), (1, .int x1), (2, .int x2), (3, .int (x3 + 1))]) [1, 2, 3, 0] rfl ?_
        exact ih (x3 + 1) (upd m_day (x3).toNatClampNeg (0 : Int32)) h
set_option maxHeartbeats 4000000 in
set_option maxRecDepth 100000 in
theorem k_X9_days_67_ok {G : GX} {cy : Nat → ClassId} (am : Nat → Nat)  (x1 : Int32) (x2 : Int32) (x3 : Int32) (Mm : ModS) (m_s : (Nat → Int32)) (m_day : (Nat → Int32)) {out : Int32 × ModS × (Nat → Int32)} (F : Fx G cX9_days wsX9_days RX9 cy 6 (rm_X9_days)) (Rq : Rx G "days" (some .int) (some (.int out.1)) (fun z => z = [(sMod cy am out.2.1), (sI cy (am 12) 24 m_s), (sI cy (am 32) 4096 out.2.2)]) 0 0) (ke : Int32 → Option (Int32 × ModS × (Nat → Int32))) (hke : ∀ (x4 : Int32) , ke x4 = some out → Go G 0 0 105 [(0, .ref (am 0)), (1, .int x1), (2, .int x2), (3, .int x3), (4, .int x4)] [] [(sMod cy am Mm), (sI cy (am 12) 24 m_s), (sI cy (am 32) 4096 m_day)]) : ∀ (n : Nat) (x4 : Int32) (x5 : Int32) , k_X9_days_67 x1 x2 x3 Mm m_s m_day ke n x4 x5 = some out → Go G 0 0 67 [(0, .ref (am 0)), (1, .int x1), (2, .int x2), (3, .int x3), (4, .int x4), (5, .int x5)] [] [(sMod cy am Mm), (sI cy (am 12) 24 m_s), (sI cy (am 32) 4096 m_day)] := by
  intro n
  induction n with
  | zero =>
    intro x4 x5 h
    exact nosome h
  | succ n ih =>
    intro x4 x5 h
    rw [k_X9_days_67.eq_2] at h
    refine g_iload F dX9_days_67 5 rfl ?_
    refine g_aload_n F dX9_days_69 rfl 0 rfl ?_
    refine g_get F (C := RX9) (T := TX9) (N := 36) (ci := 9) (v := .int (Mm 8)) hi_X9_days_X9 0 0 8 dX9_days_70 rfl rfl (by decide) fl_X9_days_145 rfl ?_
    refine g_icmp_ge F 105 h dX9_days_73 (by decide) (fun h => ?_) (fun h => ?_)
    · refine Go.sub (lv' := [(0, .ref (am 0)), (1, .int x1), (2, .int x2), (3, .int x3), (4, .int x4)]) [0, 1, 2, 3, 4] rfl ?_
      exact hke x4 h
    · refine g_iload F dX9_days_76 4 rfl ?_
      refine g_aload_n F dX9_days_78 rfl 0 rfl ?_
      refine g_iload_n F dX9_days_79 rfl 3 rfl ?_
      refine g_iload F dX9_days_80 5 rfl ?_
      obtain ⟨r3, hr3, h⟩ := bnd h
      refine g_cV F [.int x3, .int x5] 0 0 (ok_X9_canNext (gl G) (gD G) cy am Mm m_s x3 x5 r3 hr3) dX9_days_82 rfl rfl gX9_days_X9_canNext rfl ⟨rfl, cd_X9_canNext⟩ (by decide) rfl (Nat.le_of_ble_eq_true rfl) [0, 1] (by decide) rfl rfl (sg' := [(sMod cy am Mm), (sI cy (am 12) 24 m_s), (sI cy (am 32) 4096 m_day)]) (st' := [.int r3, .int x4]) rfl rfl ?_
      refine g_if_eq F 95 h dX9_days_85 (by decide) (fun h => ?_) (fun h => ?_)
      · refine g_iconst F (v := (0 : Int32)) dX9_days_95 (by decide) ?_
        refine g_ior F dX9_days_96 ?_
        refine g_istore F (lv' := [(4, .int (x4 ||| (0 : Int32))), (0, .ref (am 0)), (1, .int x1), (2, .int x2), (3, .int x3), (5, .int x5)]) dX9_days_97 (by decide) rfl ?_
        refine g_iinc F (v := (x5 + 1)) (lv' := [(5, .int (x5 + 1)), (4, .int (x4 ||| (0 : Int32))), (0, .ref (am 0)), (1, .int x1), (2, .int x2), (3, .int x3)]) dX9_days_99 5 rfl rfl (by decide) rfl ?_
        refine g_goto F 67 dX9_days_102 (by decide) ?_
        refine Go.sub (lv' := [(0, .ref (am 0)), (1, .int x1), (2, .int x2), (3, .int x3), (4, .int (x4 ||| (0 : Int32))), (5, .int (x5 + 1))]) [2, 3, 4, 5, 1, 0] rfl ?_
        exact ih (x4 ||| (0 : Int32)) (x5 + 1) h
      · refine g_iconst F (v := (1 : Int32)) dX9_days_88 (by decide) ?_
        refine g_iload F dX9_days_89 5 rfl ?_
        refine g_ishl F dX9_days_91 ?_
        refine g_goto F 96 dX9_days_92 (by decide) ?_
        refine g_ior F dX9_days_96 ?_
        refine g_istore F (lv' := [(4, .int (x4 ||| ((1 : Int32) <<< (x5 &&& 31)))), (0, .ref (am 0)), (1, .int x1), (2, .int x2), (3, .int x3), (5, .int x5)]) dX9_days_97 (by decide) rfl ?_
        refine g_iinc F (v := (x5 + 1)) (lv' := [(5, .int (x5 + 1)), (4, .int (x4 ||| ((1 : Int32) <<< (x5 &&& 31)))), (0, .ref (am 0)), (1, .int x1), (2, .int x2), (3, .int x3)]) dX9_days_99 5 rfl rfl (by decide) rfl ?_
        refine g_goto F 67 dX9_days_102 (by decide) ?_
        refine Go.sub (lv' := [(0, .ref (am 0)), (1, .int x1), (2, .int x2), (3, .int x3), (4, .int (x4 ||| ((1 : Int32) <<< (x5 &&& 31)))), (5, .int (x5 + 1))]) [2, 3, 4, 5, 1, 0] rfl ?_
        exact ih (x4 ||| ((1 : Int32) <<< (x5 &&& 31))) (x5 + 1) h
set_option maxHeartbeats 4000000 in
set_option maxRecDepth 100000 in
theorem k_X9_days_56_ok {G : GX} {cy : Nat → ClassId} (am : Nat → Nat)  (x1 : Int32) (x2 : Int32) (Mm : ModS) (m_s : (Nat → Int32)) {out : Int32 × ModS × (Nat → Int32)} (F : Fx G cX9_days wsX9_days RX9 cy 6 (rm_X9_days)) (Rq : Rx G "days" (some .int) (some (.int out.1)) (fun z => z = [(sMod cy am out.2.1), (sI cy (am 12) 24 m_s), (sI cy (am 32) 4096 out.2.2)]) 0 0) (ke : (Nat → Int32) → Option (Int32 × ModS × (Nat → Int32))) (hke : ∀  (m_day : (Nat → Int32)), ke m_day = some out → Go G 0 0 130 [(0, .ref (am 0)), (2, .int x2)] [] [(sMod cy am Mm), (sI cy (am 12) 24 m_s), (sI cy (am 32) 4096 m_day)]) : ∀ (n : Nat) (x3 : Int32) (m_day : (Nat → Int32)), k_X9_days_56 x1 x2 Mm m_s ke n x3 m_day = some out → Go G 0 0 56 [(0, .ref (am 0)), (1, .int x1), (2, .int x2), (3, .int x3)] [] [(sMod cy am Mm), (sI cy (am 12) 24 m_s), (sI cy (am 32) 4096 m_day)] := by
  intro n
  induction n with
  | zero =>
    intro x3 m_day h
    exact nosome h
  | succ n ih =>
    intro x3 m_day h
    rw [k_X9_days_56.eq_2] at h
    refine g_iload_n F dX9_days_56 rfl 3 rfl ?_
    refine g_iload_n F dX9_days_57 rfl 2 rfl ?_
    refine g_icmp_ge F 130 h dX9_days_58 (by decide) (fun h => ?_) (fun h => ?_)
    · refine Go.sub (lv' := [(0, .ref (am 0)), (2, .int x2)]) [0, 2] rfl ?_
      exact hke m_day h
    · refine g_iconst F (v := (0 : Int32)) dX9_days_61 (by decide) ?_
      refine g_istore F (lv' := [(4, .int (0 : Int32)), (0, .ref (am 0)), (1, .int x1), (2, .int x2), (3, .int x3)]) dX9_days_62 (by decide) rfl ?_
      refine g_iconst F (v := (0 : Int32)) dX9_days_64 (by decide) ?_
      refine g_istore F (lv' := [(5, .int (0 : Int32)), (4, .int (0 : Int32)), (0, .ref (am 0)), (1, .int x1), (2, .int x2), (3, .int x3)]) dX9_days_65 (by decide) rfl ?_
      refine Go.sub (lv' := [(0, .ref (am 0)), (1, .int x1), (2, .int x2), (3, .int x3), (4, .int (0 : Int32)), (5, .int (0 : Int32))]) [2, 3, 4, 5, 1, 0] rfl ?_
      refine k_X9_days_67_ok am x1 x2 x3 Mm m_s m_day F Rq _ (fun x4_4 h => ?_) _ (0 : Int32) (0 : Int32) h
      refine g_aload_n F dX9_days_105 rfl 0 rfl ?_
      refine g_get F (C := RX9) (T := TX9) (N := 36) (ci := 9) (v := .ref (am 32)) hi_X9_days_X9 0 0 31 dX9_days_106 rfl rfl (by decide) fl_X9_days_57 rfl ?_
      refine g_iload_n F dX9_days_109 rfl 3 rfl ?_
      refine g_iaload F h 2 0 dX9_days_110 rfl (fun h => ?_)
      refine g_bipush F (v := (99 : Int32)) dX9_days_111 (by decide) ?_
      refine g_icmp_ge F 124 h dX9_days_113 (by decide) (fun h => ?_) (fun h => ?_)
      · refine g_iinc F (v := (x3 + 1)) (lv' := [(3, .int (x3 + 1)), (0, .ref (am 0)), (1, .int x1), (2, .int x2), (4, .int x4_4)]) dX9_days_124 3 rfl rfl (by decide) rfl ?_
        refine g_goto F 56 dX9_days_127 (by decide) ?_
        refine Go.sub (lv' := [(0, .ref (am 0)), (1, .int x1), (2, .int x2), (3, .int (x3 + 1))]) [1, 2, 3, 0] rfl ?_
        exact ih (x3 + 1) m_day h
      · refine g_aload_n F dX9_days_116 rfl 0 rfl ?_
        refine g_iload_n F dX9_days_117 rfl 3 rfl ?_
        refine g_iload F dX9_days_118 4 rfl ?_
        refine g_iload_n F dX9_days_120 rfl 1 rfl ?_
        obtain ⟨r5, hr5, h⟩ := bnd h
        refine g_cV F [.int x3, .int x4_4, .int x1] 0 0 (ok_X9_makes (gl G) (gD G) cy am Mm m_day x3 x4_4 x1 r5 hr5) dX9_days_121 rfl rfl gX9_days_X9_makes rfl ⟨rfl, cd_X9_makes⟩ (by decide) rfl (Nat.le_of_ble_eq_true rfl) [0, 2] (by decide) rfl rfl (sg' := [(sMod cy am Mm), (sI cy (am 12) 24 m_s), (sI cy (am 32) 4096 r5)]) (st' := []) rfl rfl ?_
        refine g_iinc F (v := (x3 + 1)) (lv' := [(3, .int (x3 + 1)), (0, .ref (am 0)), (1, .int x1), (2, .int x2), (4, .int x4_4)]) dX9_days_124 3 rfl rfl (by decide) rfl ?_
        refine g_goto F 56 dX9_days_127 (by decide) ?_
        refine Go.sub (lv' := [(0, .ref (am 0)), (1, .int x1), (2, .int x2), (3, .int (x3 + 1))]) [1, 2, 3, 0] rfl ?_
        exact ih (x3 + 1) r5 h
set_option maxHeartbeats 4000000 in
set_option maxRecDepth 100000 in
theorem ok_X9_days (l : Launch) (D : va_G) (cy : Nat → ClassId) (am : Nat → Nat)  (Mm : ModS) (m_s : (Nat → Int32)) (m_day : (Nat → Int32)) (x1 : Int32) (out : Int32 × ModS × (Nat → Int32)) (h : f_X9_days Mm m_s m_day x1 = some out) : OK l D cy yX9_days wsX9_days rm_X9_days [.ref (am 0), .int x1] [(sMod cy am Mm), (sI cy (am 12) 24 m_s), (sI cy (am 32) 4096 m_day)] (some (.int out.1)) [(sMod cy am out.2.1), (sI cy (am 12) 24 m_s), (sI cy (am 32) 4096 out.2.2)] := by
  refine OKx.of (cc := cX9_days) (maxL := 6) (ret := (some .int)) (by decide) rfl (Nat.le_of_ble_eq_true rfl) (fun G F Rq => ?_)
  show Go G 0 0 0 [(0, .ref (am 0)), (1, .int x1)] [] [(sMod cy am Mm), (sI cy (am 12) 24 m_s), (sI cy (am 32) 4096 m_day)]
  replace F : Fx G cX9_days wsX9_days RX9 cy 6 (rm_X9_days) := F
  replace Rq : Rx G "days" (some .int) (some (.int out.1)) (fun z => z = [(sMod cy am out.2.1), (sI cy (am 12) 24 m_s), (sI cy (am 32) 4096 out.2.2)]) 0 0 := Rq
  unfold f_X9_days at h
  refine g_aload_n F dX9_days_0 rfl 0 rfl ?_
  refine g_iconst F (v := (0 : Int32)) dX9_days_1 (by decide) ?_
  refine g_put F (C := RX9) (T := TX9) (N := 36) (ci := 9) (v := .int (0 : Int32)) (ty := .int) (sg' := [(sMod cy am (upd Mm 0 (0 : Int32))), (sI cy (am 12) 24 m_s), (sI cy (am 32) 4096 m_day)]) hi_X9_days_X9 tyX9 tyX9_ok nmX9 0 0 0 dX9_days_2 rfl rfl (by decide) fl_X9_days_75 rfl rfl rfl rfl (Nat.le_of_ble_eq_true rfl) rfl ?_
  refine g_iload_n F dX9_days_5 rfl 1 rfl ?_
  refine g_iconst F (v := (1 : Int32)) dX9_days_6 (by decide) ?_
  refine g_iconst F (v := (3 : Int32)) dX9_days_7 (by decide) ?_
  obtain ⟨r1, hr1, h⟩ := bnd h
  refine g_cS F [.int x1, .int (1 : Int32), .int (3 : Int32)] (ok_X9_in (gl G) (gD G) cy x1 (1 : Int32) (3 : Int32) r1 hr1) dX9_days_8 gX9_days_X9_in rfl cd_X9_in (by decide) rfl (Nat.le_of_ble_eq_true rfl) [] (by decide) rfl rfl (sg' := [(sMod cy am (upd Mm 0 (0 : Int32))), (sI cy (am 12) 24 m_s), (sI cy (am 32) 4096 m_day)]) (st' := [.int r1]) rfl rfl ?_
  refine g_if_ne F 16 h dX9_days_11 (by decide) (fun h => ?_) (fun h => ?_)
  · refine g_iconst F (v := (1 : Int32)) dX9_days_16 (by decide) ?_
    refine g_aload_n F dX9_days_17 rfl 0 rfl ?_
    refine g_get F (C := RX9) (T := TX9) (N := 36) (ci := 9) (v := .int (Mm 8)) hi_X9_days_X9 0 0 8 dX9_days_18 rfl rfl (by decide) fl_X9_days_145 rfl ?_
    refine g_ishl F dX9_days_21 ?_
    refine g_iconst F (v := (1 : Int32)) dX9_days_22 (by decide) ?_
    refine g_isub F dX9_days_23 ?_
    refine g_istore_n F (lv' := [(2, .int (((1 : Int32) <<< ((Mm 8) &&& 31)) - (1 : Int32))), (0, .ref (am 0)), (1, .int x1)]) dX9_days_24 rfl (by decide) rfl ?_
    refine g_iconst F (v := (0 : Int32)) dX9_days_25 (by decide) ?_
    refine g_istore_n F (lv' := [(3, .int (0 : Int32)), (2, .int (((1 : Int32) <<< ((Mm 8) &&& 31)) - (1 : Int32))), (0, .ref (am 0)), (1, .int x1)]) dX9_days_26 rfl (by decide) rfl ?_
    refine Go.sub (lv' := [(0, .ref (am 0)), (1, .int x1), (2, .int (((1 : Int32) <<< ((Mm 8) &&& 31)) - (1 : Int32))), (3, .int (0 : Int32))]) [2, 3, 1, 0] rfl ?_
    refine k_X9_days_27_ok am x1 (((1 : Int32) <<< ((Mm 8) &&& 31)) - (1 : Int32)) (upd Mm 0 (0 : Int32)) m_s F Rq _ (fun m_day_2 h => ?_) _ (0 : Int32) m_day h
    refine g_iconst F (v := (0 : Int32)) dX9_days_54 (by decide) ?_
    refine g_istore_n F (lv' := [(3, .int (0 : Int32)), (0, .ref (am 0)), (1, .int x1), (2, .int (((1 : Int32) <<< ((Mm 8) &&& 31)) - (1 : Int32)))]) dX9_days_55 rfl (by decide) rfl ?_
    refine Go.sub (lv' := [(0, .ref (am 0)), (1, .int x1), (2, .int (((1 : Int32) <<< ((Mm 8) &&& 31)) - (1 : Int32))), (3, .int (0 : Int32))]) [1, 2, 3, 0] rfl ?_
    refine k_X9_days_56_ok am x1 (((1 : Int32) <<< ((Mm 8) &&& 31)) - (1 : Int32)) (upd Mm 0 (0 : Int32)) m_s F Rq _ (fun m_day_6 h => ?_) _ (0 : Int32) m_day_2 h
    refine g_aload_n F dX9_days_130 rfl 0 rfl ?_
    refine g_get F (C := RX9) (T := TX9) (N := 36) (ci := 9) (v := .ref (am 32)) hi_X9_days_X9 0 0 31 dX9_days_131 rfl rfl (by decide) fl_X9_days_57 rfl ?_
    refine g_iload_n F dX9_days_134 rfl 1 rfl ?_
    refine g_iaload F h 2 0 dX9_days_135 rfl (fun h => ?_)
    obtain rfl := Option.some.inj h
    exact g_iret F Rq rfl dX9_days_136
  · refine g_iconst F (v := (-1 : Int32)) dX9_days_14 (by decide) ?_
    obtain rfl := Option.some.inj h
    exact g_iret F Rq rfl dX9_days_15
theorem hi_X9_sees_X9 : ∀ w ∈ u_ws RX9 TX9 36, w ∈ wsX9_sees := by decide +kernel
theorem fl_X9_sees_75 : Cond.fieldLink RX9 75 "ArcOrderModel" "thrown" "I" ∈ wsX9_sees := by decide +kernel
theorem fl_X9_sees_155 : Cond.fieldLink RX9 155 "ArcOrderModel" "seenMany" "I" ∈ wsX9_sees := by decide +kernel
theorem fl_X9_sees_44 : Cond.fieldLink RX9 44 "ArcOrderModel" "seenItem" "[I" ∈ wsX9_sees := by decide +kernel
theorem fl_X9_sees_47 : Cond.fieldLink RX9 47 "ArcOrderModel" "seenMoved" "[I" ∈ wsX9_sees := by decide +kernel
abbrev rm_X9_sees : Room := { frames := 2, cells := 0, slots := 0, locals := 43 }
set_option maxHeartbeats 4000000 in
set_option maxRecDepth 100000 in
theorem ok_X9_sees (l : Launch) (D : va_G) (cy : Nat → ClassId) (am : Nat → Nat)  (Mm : ModS) (m_seenItem : (Nat → Int32)) (m_seenMoved : (Nat → Int32)) (x1 : Int32) (x2 : Int32) (out : Int32 × ModS × (Nat → Int32) × (Nat → Int32)) (h : f_X9_sees Mm m_seenItem m_seenMoved x1 x2 = some out) : OK l D cy yX9_sees wsX9_sees rm_X9_sees [.ref (am 0), .int x1, .int x2] [(sMod cy am Mm), (sI cy (am 24) 6 m_seenItem), (sI cy (am 25) 6 m_seenMoved)] (some (.int out.1)) [(sMod cy am out.2.1), (sI cy (am 24) 6 out.2.2.1), (sI cy (am 25) 6 out.2.2.2)] := by
  refine OKx.of (cc := cX9_sees) (maxL := 3) (ret := (some .int)) (by decide) rfl (Nat.le_of_ble_eq_true rfl) (fun G F Rq => ?_)
  show Go G 0 0 0 [(0, .ref (am 0)), (1, .int x1), (2, .int x2)] [] [(sMod cy am Mm), (sI cy (am 24) 6 m_seenItem), (sI cy (am 25) 6 m_seenMoved)]
  replace F : Fx G cX9_sees wsX9_sees RX9 cy 3 (rm_X9_sees) := F
  replace Rq : Rx G "sees" (some .int) (some (.int out.1)) (fun z => z = [(sMod cy am out.2.1), (sI cy (am 24) 6 out.2.2.1), (sI cy (am 25) 6 out.2.2.2)]) 0 0 := Rq
  unfold f_X9_sees at h
  refine g_aload_n F dX9_sees_0 rfl 0 rfl ?_
  refine g_iconst F (v := (0 : Int32)) dX9_sees_1 (by decide) ?_
  refine g_put F (C := RX9) (T := TX9) (N := 36) (ci := 9) (v := .int (0 : Int32)) (ty := .int) (sg' := [(sMod cy am (upd Mm 0 (0 : Int32))), (sI cy (am 24) 6 m_seenItem), (sI cy (am 25) 6 m_seenMoved)]) hi_X9_sees_X9 tyX9 tyX9_ok nmX9 0 0 0 dX9_sees_2 rfl rfl (by decide) fl_X9_sees_75 rfl rfl rfl rfl (Nat.le_of_ble_eq_true rfl) rfl ?_
  refine g_aload_n F dX9_sees_5 rfl 0 rfl ?_
  refine g_iload_n F dX9_sees_6 rfl 1 rfl ?_
  obtain ⟨r1, hr1, h⟩ := bnd h
  refine g_cV F [.int x1] 0 0 (ok_X9_isItem (gl G) (gD G) cy am (upd Mm 0 (0 : Int32)) x1 r1 hr1) dX9_sees_7 rfl rfl gX9_sees_X9_isItem rfl ⟨rfl, cd_X9_isItem⟩ (by decide) rfl (Nat.le_of_ble_eq_true rfl) [0] (by decide) rfl rfl (sg' := [(sMod cy am (upd Mm 0 (0 : Int32))), (sI cy (am 24) 6 m_seenItem), (sI cy (am 25) 6 m_seenMoved)]) (st' := [.int r1]) rfl rfl ?_
  refine g_if_eq F 22 h dX9_sees_10 (by decide) (fun h => ?_) (fun h => ?_)
  · refine g_iconst F (v := (-1 : Int32)) dX9_sees_22 (by decide) ?_
    obtain rfl := Option.some.inj h
    exact g_iret F Rq rfl dX9_sees_23
  · refine g_iload_n F dX9_sees_13 rfl 2 rfl ?_
    refine g_iconst F (v := (0 : Int32)) dX9_sees_14 (by decide) ?_
    refine g_iconst F (v := (1 : Int32)) dX9_sees_15 (by decide) ?_
    obtain ⟨r2, hr2, h⟩ := bnd h
    refine g_cS F [.int x2, .int (0 : Int32), .int (1 : Int32)] (ok_X9_in (gl G) (gD G) cy x2 (0 : Int32) (1 : Int32) r2 hr2) dX9_sees_16 gX9_sees_X9_in rfl cd_X9_in (by decide) rfl (Nat.le_of_ble_eq_true rfl) [] (by decide) rfl rfl (sg' := [(sMod cy am (upd Mm 0 (0 : Int32))), (sI cy (am 24) 6 m_seenItem), (sI cy (am 25) 6 m_seenMoved)]) (st' := [.int r2]) rfl rfl ?_
    refine g_if_ne F 24 h dX9_sees_19 (by decide) (fun h => ?_) (fun h => ?_)
    · refine g_aload_n F dX9_sees_24 rfl 0 rfl ?_
      refine g_get F (C := RX9) (T := TX9) (N := 36) (ci := 9) (v := .int (Mm 25)) hi_X9_sees_X9 0 0 25 dX9_sees_25 rfl rfl (by decide) fl_X9_sees_155 rfl ?_
      refine g_bipush F (v := (6 : Int32)) dX9_sees_28 (by decide) ?_
      refine g_icmp_ne F 36 h dX9_sees_30 (by decide) (fun h => ?_) (fun h => ?_)
      · refine g_aload_n F dX9_sees_36 rfl 0 rfl ?_
        refine g_get F (C := RX9) (T := TX9) (N := 36) (ci := 9) (v := .ref (am 24)) hi_X9_sees_X9 0 0 23 dX9_sees_37 rfl rfl (by decide) fl_X9_sees_44 rfl ?_
        refine g_aload_n F dX9_sees_40 rfl 0 rfl ?_
        refine g_get F (C := RX9) (T := TX9) (N := 36) (ci := 9) (v := .int (Mm 25)) hi_X9_sees_X9 0 0 25 dX9_sees_41 rfl rfl (by decide) fl_X9_sees_155 rfl ?_
        refine g_iload_n F dX9_sees_44 rfl 1 rfl ?_
        refine g_iastore F h (sg' := [(sMod cy am (upd Mm 0 (0 : Int32))), (sI cy (am 24) 6 (upd m_seenItem ((Mm 25)).toNatClampNeg x1)), (sI cy (am 25) 6 m_seenMoved)]) 1 0 dX9_sees_45 rfl rfl (fun h => ?_)
        refine g_aload_n F dX9_sees_46 rfl 0 rfl ?_
        refine g_get F (C := RX9) (T := TX9) (N := 36) (ci := 9) (v := .ref (am 25)) hi_X9_sees_X9 0 0 24 dX9_sees_47 rfl rfl (by decide) fl_X9_sees_47 rfl ?_
        refine g_aload_n F dX9_sees_50 rfl 0 rfl ?_
        refine g_get F (C := RX9) (T := TX9) (N := 36) (ci := 9) (v := .int (Mm 25)) hi_X9_sees_X9 0 0 25 dX9_sees_51 rfl rfl (by decide) fl_X9_sees_155 rfl ?_
        refine g_iload_n F dX9_sees_54 rfl 2 rfl ?_
        refine g_iastore F h (sg' := [(sMod cy am (upd Mm 0 (0 : Int32))), (sI cy (am 24) 6 (upd m_seenItem ((Mm 25)).toNatClampNeg x1)), (sI cy (am 25) 6 (upd m_seenMoved ((Mm 25)).toNatClampNeg x2))]) 2 0 dX9_sees_55 rfl rfl (fun h => ?_)
        refine g_aload_n F dX9_sees_56 rfl 0 rfl ?_
        refine g_dup F dX9_sees_57 rfl ?_
        refine g_get F (C := RX9) (T := TX9) (N := 36) (ci := 9) (v := .int (Mm 25)) hi_X9_sees_X9 0 0 25 dX9_sees_58 rfl rfl (by decide) fl_X9_sees_155 rfl ?_
        refine g_iconst F (v := (1 : Int32)) dX9_sees_61 (by decide) ?_
        refine g_iadd F dX9_sees_62 ?_
        refine g_put F (C := RX9) (T := TX9) (N := 36) (ci := 9) (v := .int ((Mm 25) + (1 : Int32))) (ty := .int) (sg' := [(sMod cy am (upd (upd Mm 0 (0 : Int32)) 25 ((Mm 25) + (1 : Int32)))), (sI cy (am 24) 6 (upd m_seenItem ((Mm 25)).toNatClampNeg x1)), (sI cy (am 25) 6 (upd m_seenMoved ((Mm 25)).toNatClampNeg x2))]) hi_X9_sees_X9 tyX9 tyX9_ok nmX9 0 0 25 dX9_sees_63 rfl rfl (by decide) fl_X9_sees_155 rfl rfl rfl rfl (Nat.le_of_ble_eq_true rfl) rfl ?_
        refine g_aload_n F dX9_sees_66 rfl 0 rfl ?_
        refine g_get F (C := RX9) (T := TX9) (N := 36) (ci := 9) (v := .int ((Mm 25) + (1 : Int32))) hi_X9_sees_X9 0 0 25 dX9_sees_67 rfl rfl (by decide) fl_X9_sees_155 rfl ?_
        obtain rfl := Option.some.inj h
        exact g_iret F Rq rfl dX9_sees_70
      · refine g_bipush F (v := (-3 : Int32)) dX9_sees_33 (by decide) ?_
        obtain rfl := Option.some.inj h
        exact g_iret F Rq rfl dX9_sees_35
    · refine g_iconst F (v := (-1 : Int32)) dX9_sees_22 (by decide) ?_
      obtain rfl := Option.some.inj h
      exact g_iret F Rq rfl dX9_sees_23
theorem hi_X9_forget_X9 : ∀ w ∈ u_ws RX9 TX9 36, w ∈ wsX9_forget := by decide +kernel
theorem fl_X9_forget_75 : Cond.fieldLink RX9 75 "ArcOrderModel" "thrown" "I" ∈ wsX9_forget := by decide +kernel
theorem fl_X9_forget_155 : Cond.fieldLink RX9 155 "ArcOrderModel" "seenMany" "I" ∈ wsX9_forget := by decide +kernel
abbrev rm_X9_forget : Room := { frames := 0, cells := 0, slots := 0, locals := 0 }
set_option maxHeartbeats 4000000 in
set_option maxRecDepth 100000 in
theorem ok_X9_forget (l : Launch) (D : va_G) (cy : Nat → ClassId) (am : Nat → Nat)  (Mm : ModS)  (out : Int32 × ModS) (h : f_X9_forget Mm = some out) : OK l D cy yX9_forget wsX9_forget rm_X9_forget [.ref (am 0)] [(sMod cy am Mm)] (some (.int out.1)) [(sMod cy am out.2)] := by
  refine OKx.of (cc := cX9_forget) (maxL := 2) (ret := (some .int)) (by decide) rfl (Nat.le_of_ble_eq_true rfl) (fun G F Rq => ?_)
  show Go G 0 0 0 [(0, .ref (am 0))] [] [(sMod cy am Mm)]
  replace F : Fx G cX9_forget wsX9_forget RX9 cy 2 (rm_X9_forget) := F
  replace Rq : Rx G "forget" (some .int) (some (.int out.1)) (fun z => z = [(sMod cy am out.2)]) 0 0 := Rq
  unfold f_X9_forget at h
  refine g_aload_n F dX9_forget_0 rfl 0 rfl ?_
  refine g_iconst F (v := (0 : Int32)) dX9_forget_1 (by decide) ?_
  refine g_put F (C := RX9) (T := TX9) (N := 36) (ci := 9) (v := .int (0 : Int32)) (ty := .int) (sg' := [(sMod cy am (upd Mm 0 (0 : Int32)))]) hi_X9_forget_X9 tyX9 tyX9_ok nmX9 0 0 0 dX9_forget_2 rfl rfl (by decide) fl_X9_forget_75 rfl rfl rfl rfl (Nat.le_of_ble_eq_true rfl) rfl ?_
  refine g_aload_n F dX9_forget_5 rfl 0 rfl ?_
  refine g_get F (C := RX9) (T := TX9) (N := 36) (ci := 9) (v := .int (Mm 25)) hi_X9_forget_X9 0 0 25 dX9_forget_6 rfl rfl (by decide) fl_X9_forget_155 rfl ?_
  refine g_istore_n F (lv' := [(1, .int (Mm 25)), (0, .ref (am 0))]) dX9_forget_9 rfl (by decide) rfl ?_
  refine g_aload_n F dX9_forget_10 rfl 1 rfl ?_
  refine g_iconst F (v := (0 : Int32)) dX9_forget_11 (by decide) ?_
  refine g_put F (C := RX9) (T := TX9) (N := 36) (ci := 9) (v := .int (0 : Int32)) (ty := .int) (sg' := [(sMod cy am (upd (upd Mm 0 (0 : Int32)) 25 (0 : Int32)))]) hi_X9_forget_X9 tyX9 tyX9_ok nmX9 0 0 25 dX9_forget_12 rfl rfl (by decide) fl_X9_forget_155 rfl rfl rfl rfl (Nat.le_of_ble_eq_true rfl) rfl ?_
  refine g_iload_n F dX9_forget_15 rfl 0 rfl ?_
  obtain rfl := Option.some.inj h
  exact g_iret F Rq rfl dX9_forget_16
theorem hi_X9_unseenMany_X9 : ∀ w ∈ u_ws RX9 TX9 36, w ∈ wsX9_unseenMany := by decide +kernel
theorem fl_X9_unseenMany_244 : Cond.fieldLink RX9 244 "ArcOrderModel" "unseenFirst" "I" ∈ wsX9_unseenMany := by decide +kernel
theorem fl_X9_unseenMany_66 : Cond.fieldLink RX9 66 "ArcOrderModel" "movedIf" "[I" ∈ wsX9_unseenMany := by decide +kernel
theorem fl_X9_unseenMany_145 : Cond.fieldLink RX9 145 "ArcOrderModel" "items" "I" ∈ wsX9_unseenMany := by decide +kernel
theorem fl_X9_unseenMany_16 : Cond.fieldLink RX9 16 "ArcOrderModel" "s" "[I" ∈ wsX9_unseenMany := by decide +kernel
theorem fl_X9_unseenMany_126 : Cond.fieldLink RX9 126 "ArcOrderModel" "closes" "Z" ∈ wsX9_unseenMany := by decide +kernel
theorem fl_X9_unseenMany_155 : Cond.fieldLink RX9 155 "ArcOrderModel" "seenMany" "I" ∈ wsX9_unseenMany := by decide +kernel
theorem fl_X9_unseenMany_44 : Cond.fieldLink RX9 44 "ArcOrderModel" "seenItem" "[I" ∈ wsX9_unseenMany := by decide +kernel
theorem fl_X9_unseenMany_47 : Cond.fieldLink RX9 47 "ArcOrderModel" "seenMoved" "[I" ∈ wsX9_unseenMany := by decide +kernel
abbrev rm_X9_unseenMany : Room := { frames := 3, cells := 0, slots := 0, locals := 72 }
set_option maxHeartbeats 4000000 in
set_option maxRecDepth 100000 in
theorem k_X9_unseenMany_8_ok {G : GX} {cy : Nat → ClassId} (am : Nat → Nat)   (Mm : ModS) (m_s : (Nat → Int32)) (m_w : (Nat → Int32)) (m_seenItem : (Nat → Int32)) (m_seenMoved : (Nat → Int32)) (m_order : (Nat → Int32)) (m_tried : (Nat → Int32)) {out : Int32 × ModS × (Nat → Int32) × (Nat → Int32) × (Nat → Int32) × (Nat → Int32)} (F : Fx G cX9_unseenMany wsX9_unseenMany RX9 cy 7 (rm_X9_unseenMany)) (Rq : Rx G "unseenMany" (some .int) (some (.int out.1)) (fun z => z = [(sMod cy am out.2.1), (sI cy (am 12) 24 m_s), (sI cy (am 13) 24 out.2.2.1), (sI cy (am 24) 6 m_seenItem), (sI cy (am 25) 6 m_seenMoved), (sI cy (am 33) 12 out.2.2.2.1), (sI cy (am 34) 24 out.2.2.2.2.1), (sI cy (am 35) 12 out.2.2.2.2.2)]) 0 0) (ke : (Nat → Int32) → Option (Int32 × ModS × (Nat → Int32) × (Nat → Int32) × (Nat → Int32) × (Nat → Int32))) (hke : ∀  (m_movedIf : (Nat → Int32)), ke m_movedIf = some out → Go G 0 0 27 [(0, .ref (am 0))] [] [(sMod cy am Mm), (sI cy (am 12) 24 m_s), (sI cy (am 13) 24 m_w), (sI cy (am 24) 6 m_seenItem), (sI cy (am 25) 6 m_seenMoved), (sI cy (am 33) 12 m_order), (sI cy (am 34) 24 m_tried), (sI cy (am 35) 12 m_movedIf)]) : ∀ (n : Nat) (x1 : Int32) (m_movedIf : (Nat → Int32)), k_X9_unseenMany_8 Mm m_s m_w m_seenItem m_seenMoved m_order m_tried ke n x1 m_movedIf = some out → Go G 0 0 8 [(0, .ref (am 0)), (1, .int x1)] [] [(sMod cy am Mm), (sI cy (am 12) 24 m_s), (sI cy (am 13) 24 m_w), (sI cy (am 24) 6 m_seenItem), (sI cy (am 25) 6 m_seenMoved), (sI cy (am 33) 12 m_order), (sI cy (am 34) 24 m_tried), (sI cy (am 35) 12 m_movedIf)] := by
  intro n
  induction n with
  | zero =>
    intro x1 m_movedIf h
    exact nosome h
  | succ n ih =>
    intro x1 m_movedIf h
    rw [k_X9_unseenMany_8.eq_2] at h
    refine g_iload_n F dX9_unseenMany_8 rfl 1 rfl ?_
    refine g_bipush F (v := (12 : Int32)) dX9_unseenMany_9 (by decide) ?_
    refine g_icmp_ge F 27 h dX9_unseenMany_11 (by decide) (fun h => ?_) (fun h => ?_)
    · refine Go.sub (lv' := [(0, .ref (am 0))]) [0] rfl ?_
      exact hke m_movedIf h
    · refine g_aload_n F dX9_unseenMany_14 rfl 0 rfl ?_
      refine g_get F (C := RX9) (T := TX9) (N := 36) (ci := 9) (v := .ref (am 35)) hi_X9_unseenMany_X9 0 0 34 dX9_unseenMany_15 rfl rfl (by decide) fl_X9_unseenMany_66 rfl ?_
      refine g_iload_n F dX9_unseenMany_18 rfl 1 rfl ?_
      refine g_iconst F (v := (0 : Int32)) dX9_unseenMany_19 (by decide) ?_
      refine g_iastore F h (sg' := [(sMod cy am Mm), (sI cy (am 12) 24 m_s), (sI cy (am 13) 24 m_w), (sI cy (am 24) 6 m_seenItem), (sI cy (am 25) 6 m_seenMoved), (sI cy (am 33) 12 m_order), (sI cy (am 34) 24 m_tried), (sI cy (am 35) 12 (upd m_movedIf (x1).toNatClampNeg (0 : Int32)))]) 7 0 dX9_unseenMany_20 rfl rfl (fun h => ?_)
      refine g_iinc F (v := (x1 + 1)) (lv' := [(1, .int (x1 + 1)), (0, .ref (am 0))]) dX9_unseenMany_21 1 rfl rfl (by decide) rfl ?_
      refine g_goto F 8 dX9_unseenMany_24 (by decide) ?_
      refine Go.sub (lv' := [(0, .ref (am 0)), (1, .int (x1 + 1))]) [1, 0] rfl ?_
      exact ih (x1 + 1) (upd m_movedIf (x1).toNatClampNeg (0 : Int32)) h
set_option maxHeartbeats 4000000 in
set_option maxRecDepth 100000 in
theorem k_X9_unseenMany_94_ok {G : GX} {cy : Nat → ClassId} (am : Nat → Nat)  (x1 : Int32) (x2 : Int32) (x3 : Int32) (x4 : Int32) (Mm : ModS) (m_s : (Nat → Int32)) (m_w : (Nat → Int32)) (m_seenItem : (Nat → Int32)) (m_seenMoved : (Nat → Int32)) (m_order : (Nat → Int32)) (m_tried : (Nat → Int32)) (m_movedIf : (Nat → Int32)) {out : Int32 × ModS × (Nat → Int32) × (Nat → Int32) × (Nat → Int32) × (Nat → Int32)} (F : Fx G cX9_unseenMany wsX9_unseenMany RX9 cy 7 (rm_X9_unseenMany)) (Rq : Rx G "unseenMany" (some .int) (some (.int out.1)) (fun z => z = [(sMod cy am out.2.1), (sI cy (am 12) 24 m_s), (sI cy (am 13) 24 out.2.2.1), (sI cy (am 24) 6 m_seenItem), (sI cy (am 25) 6 m_seenMoved), (sI cy (am 33) 12 out.2.2.2.1), (sI cy (am 34) 24 out.2.2.2.2.1), (sI cy (am 35) 12 out.2.2.2.2.2)]) 0 0) (ke : Int32 → Option (Int32 × ModS × (Nat → Int32) × (Nat → Int32) × (Nat → Int32) × (Nat → Int32))) (hke : ∀ (x5 : Int32) , ke x5 = some out → Go G 0 0 143 [(0, .ref (am 0)), (1, .int x1), (2, .int x2), (3, .int x3), (4, .int x4), (5, .int x5)] [] [(sMod cy am Mm), (sI cy (am 12) 24 m_s), (sI cy (am 13) 24 m_w), (sI cy (am 24) 6 m_seenItem), (sI cy (am 25) 6 m_seenMoved), (sI cy (am 33) 12 m_order), (sI cy (am 34) 24 m_tried), (sI cy (am 35) 12 m_movedIf)]) : ∀ (n : Nat) (x5 : Int32) (x6 : Int32) , k_X9_unseenMany_94 x1 x2 x3 x4 Mm m_s m_w m_seenItem m_seenMoved m_order m_tried m_movedIf ke n x5 x6 = some out → Go G 0 0 94 [(0, .ref (am 0)), (1, .int x1), (2, .int x2), (3, .int x3), (4, .int x4), (5, .int x5), (6, .int x6)] [] [(sMod cy am Mm), (sI cy (am 12) 24 m_s), (sI cy (am 13) 24 m_w), (sI cy (am 24) 6 m_seenItem), (sI cy (am 25) 6 m_seenMoved), (sI cy (am 33) 12 m_order), (sI cy (am 34) 24 m_tried), (sI cy (am 35) 12 m_movedIf)] := by
  intro n
  induction n with
  | zero =>
    intro x5 x6 h
    exact nosome h
  | succ n ih =>
    intro x5 x6 h
    rw [k_X9_unseenMany_94.eq_2] at h
    refine g_iload F dX9_unseenMany_94 6 rfl ?_
    refine g_aload_n F dX9_unseenMany_96 rfl 0 rfl ?_
    refine g_get F (C := RX9) (T := TX9) (N := 36) (ci := 9) (v := .int (Mm 25)) hi_X9_unseenMany_X9 0 0 25 dX9_unseenMany_97 rfl rfl (by decide) fl_X9_unseenMany_155 rfl ?_
    refine g_icmp_ge F 143 h dX9_unseenMany_100 (by decide) (fun h => ?_) (fun h => ?_)
    · refine Go.sub (lv' := [(0, .ref (am 0)), (1, .int x1), (2, .int x2), (3, .int x3), (4, .int x4), (5, .int x5)]) [0, 1, 2, 3, 4, 5] rfl ?_
      exact hke x5 h
    · refine g_iload F dX9_unseenMany_103 5 rfl ?_
      refine g_if_eq F 134 h dX9_unseenMany_105 (by decide) (fun h => ?_) (fun h => ?_)
      · refine g_iconst F (v := (0 : Int32)) dX9_unseenMany_134 (by decide) ?_
        refine g_istore F (lv' := [(5, .int (0 : Int32)), (0, .ref (am 0)), (1, .int x1), (2, .int x2), (3, .int x3), (4, .int x4), (6, .int x6)]) dX9_unseenMany_135 (by decide) rfl ?_
        refine g_iinc F (v := (x6 + 1)) (lv' := [(6, .int (x6 + 1)), (5, .int (0 : Int32)), (0, .ref (am 0)), (1, .int x1), (2, .int x2), (3, .int x3), (4, .int x4)]) dX9_unseenMany_137 6 rfl rfl (by decide) rfl ?_
        refine g_goto F 94 dX9_unseenMany_140 (by decide) ?_
        refine Go.sub (lv' := [(0, .ref (am 0)), (1, .int x1), (2, .int x2), (3, .int x3), (4, .int x4), (5, .int (0 : Int32)), (6, .int (x6 + 1))]) [2, 3, 4, 5, 6, 1, 0] rfl ?_
        exact ih (0 : Int32) (x6 + 1) h
      · refine g_iload F dX9_unseenMany_108 4 rfl ?_
        refine g_aload_n F dX9_unseenMany_110 rfl 0 rfl ?_
        refine g_get F (C := RX9) (T := TX9) (N := 36) (ci := 9) (v := .ref (am 24)) hi_X9_unseenMany_X9 0 0 23 dX9_unseenMany_111 rfl rfl (by decide) fl_X9_unseenMany_44 rfl ?_
        refine g_iload F dX9_unseenMany_114 6 rfl ?_
        refine g_iaload F h 3 0 dX9_unseenMany_116 rfl (fun h => ?_)
        refine g_ishr F dX9_unseenMany_117 ?_
        refine g_iconst F (v := (1 : Int32)) dX9_unseenMany_118 (by decide) ?_
        refine g_iand F dX9_unseenMany_119 ?_
        refine g_aload_n F dX9_unseenMany_120 rfl 0 rfl ?_
        refine g_get F (C := RX9) (T := TX9) (N := 36) (ci := 9) (v := .ref (am 25)) hi_X9_unseenMany_X9 0 0 24 dX9_unseenMany_121 rfl rfl (by decide) fl_X9_unseenMany_47 rfl ?_
        refine g_iload F dX9_unseenMany_124 6 rfl ?_
        refine g_iaload F h 4 0 dX9_unseenMany_126 rfl (fun h => ?_)
        refine g_icmp_ne F 134 h dX9_unseenMany_127 (by decide) (fun h => ?_) (fun h => ?_)
        · refine g_iconst F (v := (0 : Int32)) dX9_unseenMany_134 (by decide) ?_
          refine g_istore F (lv' := [(5, .int (0 : Int32)), (0, .ref (am 0)), (1, .int x1), (2, .int x2), (3, .int x3), (4, .int x4), (6, .int x6)]) dX9_unseenMany_135 (by decide) rfl ?_
          refine g_iinc F (v := (x6 + 1)) (lv' := [(6, .int (x6 + 1)), (5, .int (0 : Int32)), (0, .ref (am 0)), (1, .int x1), (2, .int x2), (3, .int x3), (4, .int x4)]) dX9_unseenMany_137 6 rfl rfl (by decide) rfl ?_
          refine g_goto F 94 dX9_unseenMany_140 (by decide) ?_
          refine Go.sub (lv' := [(0, .ref (am 0)), (1, .int x1), (2, .int x2), (3, .int x3), (4, .int x4), (5, .int (0 : Int32)), (6, .int (x6 + 1))]) [2, 3, 4, 5, 6, 1, 0] rfl ?_
          exact ih (0 : Int32) (x6 + 1) h
        · refine g_iconst F (v := (1 : Int32)) dX9_unseenMany_130 (by decide) ?_
          refine g_goto F 135 dX9_unseenMany_131 (by decide) ?_
          refine g_istore F (lv' := [(5, .int (1 : Int32)), (0, .ref (am 0)), (1, .int x1), (2, .int x2), (3, .int x3), (4, .int x4), (6, .int x6)]) dX9_unseenMany_135 (by decide) rfl ?_
          refine g_iinc F (v := (x6 + 1)) (lv' := [(6, .int (x6 + 1)), (5, .int (1 : Int32)), (0, .ref (am 0)), (1, .int x1), (2, .int x2), (3, .int x3), (4, .int x4)]) dX9_unseenMany_137 6 rfl rfl (by decide) rfl ?_
          refine g_goto F 94 dX9_unseenMany_140 (by decide) ?_
          refine Go.sub (lv' := [(0, .ref (am 0)), (1, .int x1), (2, .int x2), (3, .int x3), (4, .int x4), (5, .int (1 : Int32)), (6, .int (x6 + 1))]) [2, 3, 4, 5, 6, 1, 0] rfl ?_
          exact ih (1 : Int32) (x6 + 1) h
set_option maxHeartbeats 4000000 in
set_option maxRecDepth 100000 in
theorem k_X9_unseenMany_175_ok {G : GX} {cy : Nat → ClassId} (am : Nat → Nat)  (x1 : Int32) (x2 : Int32) (x3 : Int32) (x4 : Int32) (Mm : ModS) (m_s : (Nat → Int32)) (m_w : (Nat → Int32)) (m_seenItem : (Nat → Int32)) (m_seenMoved : (Nat → Int32)) (m_order : (Nat → Int32)) (m_tried : (Nat → Int32)) {out : Int32 × ModS × (Nat → Int32) × (Nat → Int32) × (Nat → Int32) × (Nat → Int32)} (F : Fx G cX9_unseenMany wsX9_unseenMany RX9 cy 7 (rm_X9_unseenMany)) (Rq : Rx G "unseenMany" (some .int) (some (.int out.1)) (fun z => z = [(sMod cy am out.2.1), (sI cy (am 12) 24 m_s), (sI cy (am 13) 24 out.2.2.1), (sI cy (am 24) 6 m_seenItem), (sI cy (am 25) 6 m_seenMoved), (sI cy (am 33) 12 out.2.2.2.1), (sI cy (am 34) 24 out.2.2.2.2.1), (sI cy (am 35) 12 out.2.2.2.2.2)]) 0 0) (ke : (Nat → Int32) → Option (Int32 × ModS × (Nat → Int32) × (Nat → Int32) × (Nat → Int32) × (Nat → Int32))) (hke : ∀  (m_movedIf : (Nat → Int32)), ke m_movedIf = some out → Go G 0 0 207 [(0, .ref (am 0)), (1, .int x1), (2, .int x2), (3, .int x3)] [] [(sMod cy am Mm), (sI cy (am 12) 24 m_s), (sI cy (am 13) 24 m_w), (sI cy (am 24) 6 m_seenItem), (sI cy (am 25) 6 m_seenMoved), (sI cy (am 33) 12 m_order), (sI cy (am 34) 24 m_tried), (sI cy (am 35) 12 m_movedIf)]) : ∀ (n : Nat) (x6 : Int32) (m_movedIf : (Nat → Int32)), k_X9_unseenMany_175 x1 x2 x3 x4 Mm m_s m_w m_seenItem m_seenMoved m_order m_tried ke n x6 m_movedIf = some out → Go G 0 0 175 [(0, .ref (am 0)), (1, .int x1), (2, .int x2), (3, .int x3), (4, .int x4), (6, .int x6)] [] [(sMod cy am Mm), (sI cy (am 12) 24 m_s), (sI cy (am 13) 24 m_w), (sI cy (am 24) 6 m_seenItem), (sI cy (am 25) 6 m_seenMoved), (sI cy (am 33) 12 m_order), (sI cy (am 34) 24 m_tried), (sI cy (am 35) 12 m_movedIf)] := by
  intro n
  induction n with
  | zero =>
    intro x6 m_movedIf h
    exact nosome h
  | succ n ih =>
    intro x6 m_movedIf h
    rw [k_X9_unseenMany_175.eq_2] at h
    refine g_iload F dX9_unseenMany_175 5 rfl ?_
    refine g_aload_n F dX9_unseenMany_177 rfl 0 rfl ?_
    refine g_get F (C := RX9) (T := TX9) (N := 36) (ci := 9) (v := .int (Mm 8)) hi_X9_unseenMany_X9 0 0 8 dX9_unseenMany_178 rfl rfl (by decide) fl_X9_unseenMany_145 rfl ?_
    refine g_icmp_ge F 207 h dX9_unseenMany_181 (by decide) (fun h => ?_) (fun h => ?_)
    · refine Go.sub (lv' := [(0, .ref (am 0)), (1, .int x1), (2, .int x2), (3, .int x3)]) [0, 1, 2, 3] rfl ?_
      exact hke m_movedIf h
    · refine g_aload_n F dX9_unseenMany_184 rfl 0 rfl ?_
      refine g_get F (C := RX9) (T := TX9) (N := 36) (ci := 9) (v := .ref (am 35)) hi_X9_unseenMany_X9 0 0 34 dX9_unseenMany_185 rfl rfl (by decide) fl_X9_unseenMany_66 rfl ?_
      refine g_iload F dX9_unseenMany_188 5 rfl ?_
      refine g_dup2 F dX9_unseenMany_190 rfl rfl ?_
      refine g_iaload F h 7 0 dX9_unseenMany_191 rfl (fun h => ?_)
      refine g_iload F dX9_unseenMany_192 4 rfl ?_
      refine g_iload F dX9_unseenMany_194 5 rfl ?_
      refine g_ishr F dX9_unseenMany_196 ?_
      refine g_iconst F (v := (1 : Int32)) dX9_unseenMany_197 (by decide) ?_
      refine g_iand F dX9_unseenMany_198 ?_
      refine g_iadd F dX9_unseenMany_199 ?_
      refine g_iastore F h (sg' := [(sMod cy am Mm), (sI cy (am 12) 24 m_s), (sI cy (am 13) 24 m_w), (sI cy (am 24) 6 m_seenItem), (sI cy (am 25) 6 m_seenMoved), (sI cy (am 33) 12 m_order), (sI cy (am 34) 24 m_tried), (sI cy (am 35) 12 (upd m_movedIf (x6).toNatClampNeg ((m_movedIf (x6).toNatClampNeg) + ((x4 >>> (x6 &&& 31)) &&& (1 : Int32)))))]) 7 0 dX9_unseenMany_200 rfl rfl (fun h => ?_)
      refine g_iinc F (v := (x6 + 1)) (lv' := [(6, .int (x6 + 1)), (0, .ref (am 0)), (1, .int x1), (2, .int x2), (3, .int x3), (4, .int x4)]) dX9_unseenMany_201 5 rfl rfl (by decide) rfl ?_
      refine g_goto F 175 dX9_unseenMany_204 (by decide) ?_
      refine Go.sub (lv' := [(0, .ref (am 0)), (1, .int x1), (2, .int x2), (3, .int x3), (4, .int x4), (6, .int (x6 + 1))]) [1, 2, 3, 4, 5, 0] rfl ?_
      exact ih (x6 + 1) (upd m_movedIf (x6).toNatClampNeg ((m_movedIf (x6).toNatClampNeg) + ((x4 >>> (x6 &&& 31)) &&& (1 : Int32)))) h
set_option maxHeartbeats 4000000 in
set_option maxRecDepth 100000 in
theorem k_X9_unseenMany_41_ok {G : GX} {cy : Nat → ClassId} (am : Nat → Nat)  (x2 : Int32) (m_s : (Nat → Int32)) (m_seenItem : (Nat → Int32)) (m_seenMoved : (Nat → Int32)) {out : Int32 × ModS × (Nat → Int32) × (Nat → Int32) × (Nat → Int32) × (Nat → Int32)} (F : Fx G cX9_unseenMany wsX9_unseenMany RX9 cy 7 (rm_X9_unseenMany)) (Rq : Rx G "unseenMany" (some .int) (some (.int out.1)) (fun z => z = [(sMod cy am out.2.1), (sI cy (am 12) 24 m_s), (sI cy (am 13) 24 out.2.2.1), (sI cy (am 24) 6 m_seenItem), (sI cy (am 25) 6 m_seenMoved), (sI cy (am 33) 12 out.2.2.2.1), (sI cy (am 34) 24 out.2.2.2.2.1), (sI cy (am 35) 12 out.2.2.2.2.2)]) 0 0) (ke : Int32 → ModS → (Nat → Int32) → (Nat → Int32) → (Nat → Int32) → (Nat → Int32) → Option (Int32 × ModS × (Nat → Int32) × (Nat → Int32) × (Nat → Int32) × (Nat → Int32))) (hke : ∀ (x1 : Int32) (Mm : ModS) (m_w : (Nat → Int32)) (m_order : (Nat → Int32)) (m_tried : (Nat → Int32)) (m_movedIf : (Nat → Int32)), ke x1 Mm m_w m_order m_tried m_movedIf = some out → Go G 0 0 213 [(0, .ref (am 0)), (1, .int x1), (2, .int x2)] [] [(sMod cy am Mm), (sI cy (am 12) 24 m_s), (sI cy (am 13) 24 m_w), (sI cy (am 24) 6 m_seenItem), (sI cy (am 25) 6 m_seenMoved), (sI cy (am 33) 12 m_order), (sI cy (am 34) 24 m_tried), (sI cy (am 35) 12 m_movedIf)]) : ∀ (n : Nat) (x1 : Int32) (x3 : Int32) (Mm : ModS) (m_w : (Nat → Int32)) (m_order : (Nat → Int32)) (m_tried : (Nat → Int32)) (m_movedIf : (Nat → Int32)), k_X9_unseenMany_41 x2 m_s m_seenItem m_seenMoved ke n x1 x3 Mm m_w m_order m_tried m_movedIf = some out → Go G 0 0 41 [(0, .ref (am 0)), (1, .int x1), (2, .int x2), (3, .int x3)] [] [(sMod cy am Mm), (sI cy (am 12) 24 m_s), (sI cy (am 13) 24 m_w), (sI cy (am 24) 6 m_seenItem), (sI cy (am 25) 6 m_seenMoved), (sI cy (am 33) 12 m_order), (sI cy (am 34) 24 m_tried), (sI cy (am 35) 12 m_movedIf)] := by
  intro n
  induction n with
  | zero =>
    intro x1 x3 Mm m_w m_order m_tried m_movedIf h
    exact nosome h
  | succ n ih =>
    intro x1 x3 Mm m_w m_order m_tried m_movedIf h
    rw [k_X9_unseenMany_41.eq_2] at h
    refine g_iload_n F dX9_unseenMany_41 rfl 3 rfl ?_
    refine g_aload_n F dX9_unseenMany_42 rfl 0 rfl ?_
    refine g_get F (C := RX9) (T := TX9) (N := 36) (ci := 9) (v := .int (Mm 8)) hi_X9_unseenMany_X9 0 0 8 dX9_unseenMany_43 rfl rfl (by decide) fl_X9_unseenMany_145 rfl ?_
    refine g_icmp_ge F 213 h dX9_unseenMany_46 (by decide) (fun h => ?_) (fun h => ?_)
    · refine Go.sub (lv' := [(0, .ref (am 0)), (1, .int x1), (2, .int x2)]) [0, 1, 2] rfl ?_
      exact hke x1 Mm m_w m_order m_tried m_movedIf h
    · refine g_iload_n F dX9_unseenMany_49 rfl 2 rfl ?_
      refine g_iload_n F dX9_unseenMany_50 rfl 3 rfl ?_
      refine g_icmp_eq F 207 h dX9_unseenMany_51 (by decide) (fun h => ?_) (fun h => ?_)
      · refine g_iinc F (v := (x3 + 1)) (lv' := [(3, .int (x3 + 1)), (0, .ref (am 0)), (1, .int x1), (2, .int x2)]) dX9_unseenMany_207 3 rfl rfl (by decide) rfl ?_
        refine g_goto F 41 dX9_unseenMany_210 (by decide) ?_
        refine Go.sub (lv' := [(0, .ref (am 0)), (1, .int x1), (2, .int x2), (3, .int (x3 + 1))]) [1, 2, 3, 0] rfl ?_
        exact ih x1 (x3 + 1) Mm m_w m_order m_tried m_movedIf h
      · refine g_aload_n F dX9_unseenMany_54 rfl 0 rfl ?_
        refine g_get F (C := RX9) (T := TX9) (N := 36) (ci := 9) (v := .ref (am 12)) hi_X9_unseenMany_X9 0 0 11 dX9_unseenMany_55 rfl rfl (by decide) fl_X9_unseenMany_16 rfl ?_
        refine g_iconst F (v := (0 : Int32)) dX9_unseenMany_58 (by decide) ?_
        refine g_iload_n F dX9_unseenMany_59 rfl 2 rfl ?_
        refine g_iadd F dX9_unseenMany_60 ?_
        refine g_iaload F h 1 0 dX9_unseenMany_61 rfl (fun h => ?_)
        refine g_iload_n F dX9_unseenMany_62 rfl 3 rfl ?_
        obtain ⟨r2, hr2, h⟩ := bnd h
        refine g_cS F [.int (m_s (((0 : Int32) + x2)).toNatClampNeg), .int x3] (ok_X9_has (gl G) (gD G) cy (m_s (((0 : Int32) + x2)).toNatClampNeg) x3 r2 hr2) dX9_unseenMany_63 gX9_unseenMany_X9_has rfl cd_X9_has (by decide) rfl (Nat.le_of_ble_eq_true rfl) [] (by decide) rfl rfl (sg' := [(sMod cy am Mm), (sI cy (am 12) 24 m_s), (sI cy (am 13) 24 m_w), (sI cy (am 24) 6 m_seenItem), (sI cy (am 25) 6 m_seenMoved), (sI cy (am 33) 12 m_order), (sI cy (am 34) 24 m_tried), (sI cy (am 35) 12 m_movedIf)]) (st' := [.int r2]) rfl rfl ?_
        refine g_if_ne F 207 h dX9_unseenMany_66 (by decide) (fun h => ?_) (fun h => ?_)
        · refine g_iinc F (v := (x3 + 1)) (lv' := [(3, .int (x3 + 1)), (0, .ref (am 0)), (1, .int x1), (2, .int x2)]) dX9_unseenMany_207 3 rfl rfl (by decide) rfl ?_
          refine g_goto F 41 dX9_unseenMany_210 (by decide) ?_
          refine Go.sub (lv' := [(0, .ref (am 0)), (1, .int x1), (2, .int x2), (3, .int (x3 + 1))]) [1, 2, 3, 0] rfl ?_
          exact ih x1 (x3 + 1) Mm m_w m_order m_tried m_movedIf h
        · refine g_aload_n F dX9_unseenMany_69 rfl 0 rfl ?_
          refine g_iload_n F dX9_unseenMany_70 rfl 2 rfl ?_
          refine g_iload_n F dX9_unseenMany_71 rfl 3 rfl ?_
          obtain ⟨r3, hr3, h⟩ := bnd h
          refine g_cV F [.int x2, .int x3] 0 0 (ok_X9_movedBy (gl G) (gD G) cy am Mm m_s m_w m_order m_tried x2 x3 r3 hr3) dX9_unseenMany_72 rfl rfl gX9_unseenMany_X9_movedBy rfl ⟨rfl, cd_X9_movedBy⟩ (by decide) rfl (Nat.le_of_ble_eq_true rfl) [0, 1, 2, 5, 6] (by decide) rfl rfl (sg' := [(sMod cy am r3.2.1), (sI cy (am 12) 24 m_s), (sI cy (am 13) 24 r3.2.2.1), (sI cy (am 24) 6 m_seenItem), (sI cy (am 25) 6 m_seenMoved), (sI cy (am 33) 12 r3.2.2.2.1), (sI cy (am 34) 24 r3.2.2.2.2), (sI cy (am 35) 12 m_movedIf)]) (st' := [.int r3.1]) rfl rfl ?_
          refine g_istore F (lv' := [(4, .int r3.1), (0, .ref (am 0)), (1, .int x1), (2, .int x2), (3, .int x3)]) dX9_unseenMany_75 (by decide) rfl ?_
          refine g_aload_n F dX9_unseenMany_77 rfl 1 rfl ?_
          refine g_get F (C := RX9) (T := TX9) (N := 36) (ci := 9) (v := .int (r3.2.1 28)) hi_X9_unseenMany_X9 0 0 28 dX9_unseenMany_78 rfl rfl (by decide) fl_X9_unseenMany_126 rfl ?_
          refine g_if_ne F 88 h dX9_unseenMany_81 (by decide) (fun h => ?_) (fun h => ?_)
          · refine g_iconst F (v := (0 : Int32)) dX9_unseenMany_88 (by decide) ?_
            refine g_istore F (lv' := [(5, .int (0 : Int32)), (4, .int r3.1), (0, .ref (am 0)), (1, .int x1), (2, .int x2), (3, .int x3)]) dX9_unseenMany_89 (by decide) rfl ?_
            refine g_iconst F (v := (0 : Int32)) dX9_unseenMany_91 (by decide) ?_
            refine g_istore F (lv' := [(6, .int (0 : Int32)), (5, .int (0 : Int32)), (4, .int r3.1), (0, .ref (am 0)), (1, .int x1), (2, .int x2), (3, .int x3)]) dX9_unseenMany_92 (by decide) rfl ?_
            refine Go.sub (lv' := [(0, .ref (am 0)), (1, .int x1), (2, .int x2), (3, .int x3), (4, .int r3.1), (5, .int (0 : Int32)), (6, .int (0 : Int32))]) [3, 4, 5, 6, 2, 1, 0] rfl ?_
            refine k_X9_unseenMany_94_ok am x1 x2 x3 r3.1 r3.2.1 m_s r3.2.2.1 m_seenItem m_seenMoved r3.2.2.2.1 r3.2.2.2.2 m_movedIf F Rq _ (fun x5_4 h => ?_) _ (0 : Int32) (0 : Int32) h
            refine g_iload F dX9_unseenMany_143 5 rfl ?_
            refine g_if_eq F 207 h dX9_unseenMany_145 (by decide) (fun h => ?_) (fun h => ?_)
            · refine g_iinc F (v := (x3 + 1)) (lv' := [(3, .int (x3 + 1)), (0, .ref (am 0)), (1, .int x1), (2, .int x2), (4, .int r3.1), (5, .int x5_4)]) dX9_unseenMany_207 3 rfl rfl (by decide) rfl ?_
              refine g_goto F 41 dX9_unseenMany_210 (by decide) ?_
              refine Go.sub (lv' := [(0, .ref (am 0)), (1, .int x1), (2, .int x2), (3, .int (x3 + 1))]) [1, 2, 3, 0] rfl ?_
              exact ih x1 (x3 + 1) r3.2.1 r3.2.2.1 r3.2.2.2.1 r3.2.2.2.2 m_movedIf h
            · refine g_aload_n F dX9_unseenMany_148 rfl 0 rfl ?_
              refine g_iload_n F dX9_unseenMany_149 rfl 1 rfl ?_
              refine g_if_ne F 162 h dX9_unseenMany_150 (by decide) (fun h => ?_) (fun h => ?_)
              · refine g_aload_n F dX9_unseenMany_162 rfl 0 rfl ?_
                refine g_get F (C := RX9) (T := TX9) (N := 36) (ci := 9) (v := .int (r3.2.1 35)) hi_X9_unseenMany_X9 0 0 35 dX9_unseenMany_163 rfl rfl (by decide) fl_X9_unseenMany_244 rfl ?_
                refine g_put F (C := RX9) (T := TX9) (N := 36) (ci := 9) (v := .int (r3.2.1 35)) (ty := .int) (sg' := [(sMod cy am (upd r3.2.1 35 (r3.2.1 35))), (sI cy (am 12) 24 m_s), (sI cy (am 13) 24 r3.2.2.1), (sI cy (am 24) 6 m_seenItem), (sI cy (am 25) 6 m_seenMoved), (sI cy (am 33) 12 r3.2.2.2.1), (sI cy (am 34) 24 r3.2.2.2.2), (sI cy (am 35) 12 m_movedIf)]) hi_X9_unseenMany_X9 tyX9 tyX9_ok nmX9 0 0 35 dX9_unseenMany_166 rfl rfl (by decide) fl_X9_unseenMany_244 rfl rfl rfl rfl (Nat.le_of_ble_eq_true rfl) rfl ?_
                refine g_iinc F (v := (x1 + 1)) (lv' := [(1, .int (x1 + 1)), (0, .ref (am 0)), (2, .int x2), (3, .int x3), (4, .int r3.1), (5, .int x5_4)]) dX9_unseenMany_169 1 rfl rfl (by decide) rfl ?_
                refine g_iconst F (v := (0 : Int32)) dX9_unseenMany_172 (by decide) ?_
                refine g_istore F (lv' := [(6, .int (0 : Int32)), (1, .int (x1 + 1)), (0, .ref (am 0)), (2, .int x2), (3, .int x3), (4, .int r3.1), (5, .int x5_4)]) dX9_unseenMany_173 (by decide) rfl ?_
                refine Go.sub (lv' := [(0, .ref (am 0)), (1, .int (x1 + 1)), (2, .int x2), (3, .int x3), (4, .int r3.1), (6, .int (0 : Int32))]) [2, 1, 3, 4, 5, 0] rfl ?_
                refine k_X9_unseenMany_175_ok am (x1 + 1) x2 x3 r3.1 (upd r3.2.1 35 (r3.2.1 35)) m_s r3.2.2.1 m_seenItem m_seenMoved r3.2.2.2.1 r3.2.2.2.2 F Rq _ (fun m_movedIf_5 h => ?_) _ (0 : Int32) m_movedIf h
                refine g_iinc F (v := (x3 + 1)) (lv' := [(3, .int (x3 + 1)), (0, .ref (am 0)), (1, .int (x1 + 1)), (2, .int x2)]) dX9_unseenMany_207 3 rfl rfl (by decide) rfl ?_
                refine g_goto F 41 dX9_unseenMany_210 (by decide) ?_
                refine Go.sub (lv' := [(0, .ref (am 0)), (1, .int (x1 + 1)), (2, .int x2), (3, .int (x3 + 1))]) [1, 2, 3, 0] rfl ?_
                exact ih (x1 + 1) (x3 + 1) (upd r3.2.1 35 (r3.2.1 35)) r3.2.2.1 r3.2.2.2.1 r3.2.2.2.2 m_movedIf_5 h
              · refine g_bipush F (v := (16 : Int32)) dX9_unseenMany_153 (by decide) ?_
                refine g_iload_n F dX9_unseenMany_155 rfl 2 rfl ?_
                refine g_imul F dX9_unseenMany_156 ?_
                refine g_iload_n F dX9_unseenMany_157 rfl 3 rfl ?_
                refine g_iadd F dX9_unseenMany_158 ?_
                refine g_goto F 166 dX9_unseenMany_159 (by decide) ?_
                refine g_put F (C := RX9) (T := TX9) (N := 36) (ci := 9) (v := .int (((16 : Int32) * x2) + x3)) (ty := .int) (sg' := [(sMod cy am (upd r3.2.1 35 (((16 : Int32) * x2) + x3))), (sI cy (am 12) 24 m_s), (sI cy (am 13) 24 r3.2.2.1), (sI cy (am 24) 6 m_seenItem), (sI cy (am 25) 6 m_seenMoved), (sI cy (am 33) 12 r3.2.2.2.1), (sI cy (am 34) 24 r3.2.2.2.2), (sI cy (am 35) 12 m_movedIf)]) hi_X9_unseenMany_X9 tyX9 tyX9_ok nmX9 0 0 35 dX9_unseenMany_166 rfl rfl (by decide) fl_X9_unseenMany_244 rfl rfl rfl rfl (Nat.le_of_ble_eq_true rfl) rfl ?_
                refine g_iinc F (v := (x1 + 1)) (lv' := [(1, .int (x1 + 1)), (0, .ref (am 0)), (2, .int x2), (3, .int x3), (4, .int r3.1), (5, .int x5_4)]) dX9_unseenMany_169 1 rfl rfl (by decide) rfl ?_
                refine g_iconst F (v := (0 : Int32)) dX9_unseenMany_172 (by decide) ?_
                refine g_istore F (lv' := [(6, .int (0 : Int32)), (1, .int (x1 + 1)), (0, .ref (am 0)), (2, .int x2), (3, .int x3), (4, .int r3.1), (5, .int x5_4)]) dX9_unseenMany_173 (by decide) rfl ?_
                refine Go.sub (lv' := [(0, .ref (am 0)), (1, .int (x1 + 1)), (2, .int x2), (3, .int x3), (4, .int r3.1), (6, .int (0 : Int32))]) [2, 1, 3, 4, 5, 0] rfl ?_
                refine k_X9_unseenMany_175_ok am (x1 + 1) x2 x3 r3.1 (upd r3.2.1 35 (((16 : Int32) * x2) + x3)) m_s r3.2.2.1 m_seenItem m_seenMoved r3.2.2.2.1 r3.2.2.2.2 F Rq _ (fun m_movedIf_6 h => ?_) _ (0 : Int32) m_movedIf h
                refine g_iinc F (v := (x3 + 1)) (lv' := [(3, .int (x3 + 1)), (0, .ref (am 0)), (1, .int (x1 + 1)), (2, .int x2)]) dX9_unseenMany_207 3 rfl rfl (by decide) rfl ?_
                refine g_goto F 41 dX9_unseenMany_210 (by decide) ?_
                refine Go.sub (lv' := [(0, .ref (am 0)), (1, .int (x1 + 1)), (2, .int x2), (3, .int (x3 + 1))]) [1, 2, 3, 0] rfl ?_
                exact ih (x1 + 1) (x3 + 1) (upd r3.2.1 35 (((16 : Int32) * x2) + x3)) r3.2.2.1 r3.2.2.2.1 r3.2.2.2.2 m_movedIf_6 h
          · refine g_iconst F (v := (1 : Int32)) dX9_unseenMany_84 (by decide) ?_
            refine g_goto F 89 dX9_unseenMany_85 (by decide) ?_
            refine g_istore F (lv' := [(5, .int (1 : Int32)), (4, .int r3.1), (0, .ref (am 0)), (1, .int x1), (2, .int x2), (3, .int x3)]) dX9_unseenMany_89 (by decide) rfl ?_
            refine g_iconst F (v := (0 : Int32)) dX9_unseenMany_91 (by decide) ?_
            refine g_istore F (lv' := [(6, .int (0 : Int32)), (5, .int (1 : Int32)), (4, .int r3.1), (0, .ref (am 0)), (1, .int x1), (2, .int x2), (3, .int x3)]) dX9_unseenMany_92 (by decide) rfl ?_
            refine Go.sub (lv' := [(0, .ref (am 0)), (1, .int x1), (2, .int x2), (3, .int x3), (4, .int r3.1), (5, .int (1 : Int32)), (6, .int (0 : Int32))]) [3, 4, 5, 6, 2, 1, 0] rfl ?_
            refine k_X9_unseenMany_94_ok am x1 x2 x3 r3.1 r3.2.1 m_s r3.2.2.1 m_seenItem m_seenMoved r3.2.2.2.1 r3.2.2.2.2 m_movedIf F Rq _ (fun x5_7 h => ?_) _ (1 : Int32) (0 : Int32) h
            refine g_iload F dX9_unseenMany_143 5 rfl ?_
            refine g_if_eq F 207 h dX9_unseenMany_145 (by decide) (fun h => ?_) (fun h => ?_)
            · refine g_iinc F (v := (x3 + 1)) (lv' := [(3, .int (x3 + 1)), (0, .ref (am 0)), (1, .int x1), (2, .int x2), (4, .int r3.1), (5, .int x5_7)]) dX9_unseenMany_207 3 rfl rfl (by decide) rfl ?_
              refine g_goto F 41 dX9_unseenMany_210 (by decide) ?_
              refine Go.sub (lv' := [(0, .ref (am 0)), (1, .int x1), (2, .int x2), (3, .int (x3 + 1))]) [1, 2, 3, 0] rfl ?_
              exact ih x1 (x3 + 1) r3.2.1 r3.2.2.1 r3.2.2.2.1 r3.2.2.2.2 m_movedIf h
            · refine g_aload_n F dX9_unseenMany_148 rfl 0 rfl ?_
              refine g_iload_n F dX9_unseenMany_149 rfl 1 rfl ?_
              refine g_if_ne F 162 h dX9_unseenMany_150 (by decide) (fun h => ?_) (fun h => ?_)
              · refine g_aload_n F dX9_unseenMany_162 rfl 0 rfl ?_
                refine g_get F (C := RX9) (T := TX9) (N := 36) (ci := 9) (v := .int (r3.2.1 35)) hi_X9_unseenMany_X9 0 0 35 dX9_unseenMany_163 rfl rfl (by decide) fl_X9_unseenMany_244 rfl ?_
                refine g_put F (C := RX9) (T := TX9) (N := 36) (ci := 9) (v := .int (r3.2.1 35)) (ty := .int) (sg' := [(sMod cy am (upd r3.2.1 35 (r3.2.1 35))), (sI cy (am 12) 24 m_s), (sI cy (am 13) 24 r3.2.2.1), (sI cy (am 24) 6 m_seenItem), (sI cy (am 25) 6 m_seenMoved), (sI cy (am 33) 12 r3.2.2.2.1), (sI cy (am 34) 24 r3.2.2.2.2), (sI cy (am 35) 12 m_movedIf)]) hi_X9_unseenMany_X9 tyX9 tyX9_ok nmX9 0 0 35 dX9_unseenMany_166 rfl rfl (by decide) fl_X9_unseenMany_244 rfl rfl rfl rfl (Nat.le_of_ble_eq_true rfl) rfl ?_
                refine g_iinc F (v := (x1 + 1)) (lv' := [(1, .int (x1 + 1)), (0, .ref (am 0)), (2, .int x2), (3, .int x3), (4, .int r3.1), (5, .int x5_7)]) dX9_unseenMany_169 1 rfl rfl (by decide) rfl ?_
                refine g_iconst F (v := (0 : Int32)) dX9_unseenMany_172 (by decide) ?_
                refine g_istore F (lv' := [(6, .int (0 : Int32)), (1, .int (x1 + 1)), (0, .ref (am 0)), (2, .int x2), (3, .int x3), (4, .int r3.1), (5, .int x5_7)]) dX9_unseenMany_173 (by decide) rfl ?_
                refine Go.sub (lv' := [(0, .ref (am 0)), (1, .int (x1 + 1)), (2, .int x2), (3, .int x3), (4, .int r3.1), (6, .int (0 : Int32))]) [2, 1, 3, 4, 5, 0] rfl ?_
                refine k_X9_unseenMany_175_ok am (x1 + 1) x2 x3 r3.1 (upd r3.2.1 35 (r3.2.1 35)) m_s r3.2.2.1 m_seenItem m_seenMoved r3.2.2.2.1 r3.2.2.2.2 F Rq _ (fun m_movedIf_8 h => ?_) _ (0 : Int32) m_movedIf h
                refine g_iinc F (v := (x3 + 1)) (lv' := [(3, .int (x3 + 1)), (0, .ref (am 0)), (1, .int (x1 + 1)), (2, .int x2)]) dX9_unseenMany_207 3 rfl rfl (by decide) rfl ?_
                refine g_goto F 41 dX9_unseenMany_210 (by decide) ?_
                refine Go.sub (lv' := [(0, .ref (am 0)), (1, .int (x1 + 1)), (2, .int x2), (3, .int (x3 + 1))]) [1, 2, 3, 0] rfl ?_
                exact ih (x1 + 1) (x3 + 1) (upd r3.2.1 35 (r3.2.1 35)) r3.2.2.1 r3.2.2.2.1 r3.2.2.2.2 m_movedIf_8 h
              · refine g_bipush F (v := (16 : Int32)) dX9_unseenMany_153 (by decide) ?_
                refine g_iload_n F dX9_unseenMany_155 rfl 2 rfl ?_
                refine g_imul F dX9_unseenMany_156 ?_
                refine g_iload_n F dX9_unseenMany_157 rfl 3 rfl ?_
                refine g_iadd F dX9_unseenMany_158 ?_
                refine g_goto F 166 dX9_unseenMany_159 (by decide) ?_
                refine g_put F (C := RX9) (T := TX9) (N := 36) (ci := 9) (v := .int (((16 : Int32) * x2) + x3)) (ty := .int) (sg' := [(sMod cy am (upd r3.2.1 35 (((16 : Int32) * x2) + x3))), (sI cy (am 12) 24 m_s), (sI cy (am 13) 24 r3.2.2.1), (sI cy (am 24) 6 m_seenItem), (sI cy (am 25) 6 m_seenMoved), (sI cy (am 33) 12 r3.2.2.2.1), (sI cy (am 34) 24 r3.2.2.2.2), (sI cy (am 35) 12 m_movedIf)]) hi_X9_unseenMany_X9 tyX9 tyX9_ok nmX9 0 0 35 dX9_unseenMany_166 rfl rfl (by decide) fl_X9_unseenMany_244 rfl rfl rfl rfl (Nat.le_of_ble_eq_true rfl) rfl ?_
                refine g_iinc F (v := (x1 + 1)) (lv' := [(1, .int (x1 + 1)), (0, .ref (am 0)), (2, .int x2), (3, .int x3), (4, .int r3.1), (5, .int x5_7)]) dX9_unseenMany_169 1 rfl rfl (by decide) rfl ?_
                refine g_iconst F (v := (0 : Int32)) dX9_unseenMany_172 (by decide) ?_
                refine g_istore F (lv' := [(6, .int (0 : Int32)), (1, .int (x1 + 1)), (0, .ref (am 0)), (2, .int x2), (3, .int x3), (4, .int r3.1), (5, .int x5_7)]) dX9_unseenMany_173 (by decide) rfl ?_
                refine Go.sub (lv' := [(0, .ref (am 0)), (1, .int (x1 + 1)), (2, .int x2), (3, .int x3), (4, .int r3.1), (6, .int (0 : Int32))]) [2, 1, 3, 4, 5, 0] rfl ?_
                refine k_X9_unseenMany_175_ok am (x1 + 1) x2 x3 r3.1 (upd r3.2.1 35 (((16 : Int32) * x2) + x3)) m_s r3.2.2.1 m_seenItem m_seenMoved r3.2.2.2.1 r3.2.2.2.2 F Rq _ (fun m_movedIf_9 h => ?_) _ (0 : Int32) m_movedIf h
                refine g_iinc F (v := (x3 + 1)) (lv' := [(3, .int (x3 + 1)), (0, .ref (am 0)), (1, .int (x1 + 1)), (2, .int x2)]) dX9_unseenMany_207 3 rfl rfl (by decide) rfl ?_
                refine g_goto F 41 dX9_unseenMany_210 (by decide) ?_
                refine Go.sub (lv' := [(0, .ref (am 0)), (1, .int (x1 + 1)), (2, .int x2), (3, .int (x3 + 1))]) [1, 2, 3, 0] rfl ?_
                exact ih (x1 + 1) (x3 + 1) (upd r3.2.1 35 (((16 : Int32) * x2) + x3)) r3.2.2.1 r3.2.2.2.1 r3.2.2.2.2 m_movedIf_9 h
set_option maxHeartbeats 4000000 in
set_option maxRecDepth 100000 in
theorem k_X9_unseenMany_31_ok {G : GX} {cy : Nat → ClassId} (am : Nat → Nat)   (m_s : (Nat → Int32)) (m_seenItem : (Nat → Int32)) (m_seenMoved : (Nat → Int32)) {out : Int32 × ModS × (Nat → Int32) × (Nat → Int32) × (Nat → Int32) × (Nat → Int32)} (F : Fx G cX9_unseenMany wsX9_unseenMany RX9 cy 7 (rm_X9_unseenMany)) (Rq : Rx G "unseenMany" (some .int) (some (.int out.1)) (fun z => z = [(sMod cy am out.2.1), (sI cy (am 12) 24 m_s), (sI cy (am 13) 24 out.2.2.1), (sI cy (am 24) 6 m_seenItem), (sI cy (am 25) 6 m_seenMoved), (sI cy (am 33) 12 out.2.2.2.1), (sI cy (am 34) 24 out.2.2.2.2.1), (sI cy (am 35) 12 out.2.2.2.2.2)]) 0 0) (ke : Int32 → ModS → (Nat → Int32) → (Nat → Int32) → (Nat → Int32) → (Nat → Int32) → Option (Int32 × ModS × (Nat → Int32) × (Nat → Int32) × (Nat → Int32) × (Nat → Int32))) (hke : ∀ (x1 : Int32) (Mm : ModS) (m_w : (Nat → Int32)) (m_order : (Nat → Int32)) (m_tried : (Nat → Int32)) (m_movedIf : (Nat → Int32)), ke x1 Mm m_w m_order m_tried m_movedIf = some out → Go G 0 0 219 [(1, .int x1)] [] [(sMod cy am Mm), (sI cy (am 12) 24 m_s), (sI cy (am 13) 24 m_w), (sI cy (am 24) 6 m_seenItem), (sI cy (am 25) 6 m_seenMoved), (sI cy (am 33) 12 m_order), (sI cy (am 34) 24 m_tried), (sI cy (am 35) 12 m_movedIf)]) : ∀ (n : Nat) (x1 : Int32) (x2 : Int32) (Mm : ModS) (m_w : (Nat → Int32)) (m_order : (Nat → Int32)) (m_tried : (Nat → Int32)) (m_movedIf : (Nat → Int32)), k_X9_unseenMany_31 m_s m_seenItem m_seenMoved ke n x1 x2 Mm m_w m_order m_tried m_movedIf = some out → Go G 0 0 31 [(0, .ref (am 0)), (1, .int x1), (2, .int x2)] [] [(sMod cy am Mm), (sI cy (am 12) 24 m_s), (sI cy (am 13) 24 m_w), (sI cy (am 24) 6 m_seenItem), (sI cy (am 25) 6 m_seenMoved), (sI cy (am 33) 12 m_order), (sI cy (am 34) 24 m_tried), (sI cy (am 35) 12 m_movedIf)] := by
  intro n
  induction n with
  | zero =>
    intro x1 x2 Mm m_w m_order m_tried m_movedIf h
    exact nosome h
  | succ n ih =>
    intro x1 x2 Mm m_w m_order m_tried m_movedIf h
    rw [k_X9_unseenMany_31.eq_2] at h
    refine g_iload_n F dX9_unseenMany_31 rfl 2 rfl ?_
    refine g_aload_n F dX9_unseenMany_32 rfl 0 rfl ?_
    refine g_get F (C := RX9) (T := TX9) (N := 36) (ci := 9) (v := .int (Mm 8)) hi_X9_unseenMany_X9 0 0 8 dX9_unseenMany_33 rfl rfl (by decide) fl_X9_unseenMany_145 rfl ?_
    refine g_icmp_ge F 219 h dX9_unseenMany_36 (by decide) (fun h => ?_) (fun h => ?_)
    · refine Go.sub (lv' := [(1, .int x1)]) [1] rfl ?_
      exact hke x1 Mm m_w m_order m_tried m_movedIf h
    · refine g_iconst F (v := (0 : Int32)) dX9_unseenMany_39 (by decide) ?_
      refine g_istore_n F (lv' := [(3, .int (0 : Int32)), (0, .ref (am 0)), (1, .int x1), (2, .int x2)]) dX9_unseenMany_40 rfl (by decide) rfl ?_
      refine Go.sub (lv' := [(0, .ref (am 0)), (1, .int x1), (2, .int x2), (3, .int (0 : Int32))]) [1, 2, 3, 0] rfl ?_
      refine k_X9_unseenMany_41_ok am x2 m_s m_seenItem m_seenMoved F Rq _ (fun x1_10 Mm_10 m_w_10 m_order_10 m_tried_10 m_movedIf_10 h => ?_) _ x1 (0 : Int32) Mm m_w m_order m_tried m_movedIf h
      refine g_iinc F (v := (x2 + 1)) (lv' := [(2, .int (x2 + 1)), (0, .ref (am 0)), (1, .int x1_10)]) dX9_unseenMany_213 2 rfl rfl (by decide) rfl ?_
      refine g_goto F 31 dX9_unseenMany_216 (by decide) ?_
      refine Go.sub (lv' := [(0, .ref (am 0)), (1, .int x1_10), (2, .int (x2 + 1))]) [1, 2, 0] rfl ?_
      exact ih x1_10 (x2 + 1) Mm_10 m_w_10 m_order_10 m_tried_10 m_movedIf_10 h
set_option maxHeartbeats 4000000 in
set_option maxRecDepth 100000 in
theorem ok_X9_unseenMany (l : Launch) (D : va_G) (cy : Nat → ClassId) (am : Nat → Nat)  (Mm : ModS) (m_s : (Nat → Int32)) (m_w : (Nat → Int32)) (m_seenItem : (Nat → Int32)) (m_seenMoved : (Nat → Int32)) (m_order : (Nat → Int32)) (m_tried : (Nat → Int32)) (m_movedIf : (Nat → Int32))  (out : Int32 × ModS × (Nat → Int32) × (Nat → Int32) × (Nat → Int32) × (Nat → Int32)) (h : f_X9_unseenMany Mm m_s m_w m_seenItem m_seenMoved m_order m_tried m_movedIf = some out) : OK l D cy yX9_unseenMany wsX9_unseenMany rm_X9_unseenMany [.ref (am 0)] [(sMod cy am Mm), (sI cy (am 12) 24 m_s), (sI cy (am 13) 24 m_w), (sI cy (am 24) 6 m_seenItem), (sI cy (am 25) 6 m_seenMoved), (sI cy (am 33) 12 m_order), (sI cy (am 34) 24 m_tried), (sI cy (am 35) 12 m_movedIf)] (some (.int out.1)) [(sMod cy am out.2.1), (sI cy (am 12) 24 m_s), (sI cy (am 13) 24 out.2.2.1), (sI cy (am 24) 6 m_seenItem), (sI cy (am 25) 6 m_seenMoved), (sI cy (am 33) 12 out.2.2.2.1), (sI cy (am 34) 24 out.2.2.2.2.1), (sI cy (am 35) 12 out.2.2.2.2.2)] := by
  refine OKx.of (cc := cX9_unseenMany) (maxL := 7) (ret := (some .int)) (by decide) rfl (Nat.le_of_ble_eq_true rfl) (fun G F Rq => ?_)
  show Go G 0 0 0 [(0, .ref (am 0))] [] [(sMod cy am Mm), (sI cy (am 12) 24 m_s), (sI cy (am 13) 24 m_w), (sI cy (am 24) 6 m_seenItem), (sI cy (am 25) 6 m_seenMoved), (sI cy (am 33) 12 m_order), (sI cy (am 34) 24 m_tried), (sI cy (am 35) 12 m_movedIf)]
  replace F : Fx G cX9_unseenMany wsX9_unseenMany RX9 cy 7 (rm_X9_unseenMany) := F
  replace Rq : Rx G "unseenMany" (some .int) (some (.int out.1)) (fun z => z = [(sMod cy am out.2.1), (sI cy (am 12) 24 m_s), (sI cy (am 13) 24 out.2.2.1), (sI cy (am 24) 6 m_seenItem), (sI cy (am 25) 6 m_seenMoved), (sI cy (am 33) 12 out.2.2.2.1), (sI cy (am 34) 24 out.2.2.2.2.1), (sI cy (am 35) 12 out.2.2.2.2.2)]) 0 0 := Rq
  unfold f_X9_unseenMany at h
  refine g_aload_n F dX9_unseenMany_0 rfl 0 rfl ?_
  refine g_bipush F (v := (-9 : Int32)) dX9_unseenMany_1 (by decide) ?_
  refine g_put F (C := RX9) (T := TX9) (N := 36) (ci := 9) (v := .int (-9 : Int32)) (ty := .int) (sg' := [(sMod cy am (upd Mm 35 (-9 : Int32))), (sI cy (am 12) 24 m_s), (sI cy (am 13) 24 m_w), (sI cy (am 24) 6 m_seenItem), (sI cy (am 25) 6 m_seenMoved), (sI cy (am 33) 12 m_order), (sI cy (am 34) 24 m_tried), (sI cy (am 35) 12 m_movedIf)]) hi_X9_unseenMany_X9 tyX9 tyX9_ok nmX9 0 0 35 dX9_unseenMany_3 rfl rfl (by decide) fl_X9_unseenMany_244 rfl rfl rfl rfl (Nat.le_of_ble_eq_true rfl) rfl ?_
  refine g_iconst F (v := (0 : Int32)) dX9_unseenMany_6 (by decide) ?_
  refine g_istore_n F (lv' := [(1, .int (0 : Int32)), (0, .ref (am 0))]) dX9_unseenMany_7 rfl (by decide) rfl ?_
  refine Go.sub (lv' := [(0, .ref (am 0)), (1, .int (0 : Int32))]) [1, 0] rfl ?_
  refine k_X9_unseenMany_8_ok am (upd Mm 35 (-9 : Int32)) m_s m_w m_seenItem m_seenMoved m_order m_tried F Rq _ (fun m_movedIf_1 h => ?_) _ (0 : Int32) m_movedIf h
  refine g_iconst F (v := (0 : Int32)) dX9_unseenMany_27 (by decide) ?_
  refine g_istore_n F (lv' := [(1, .int (0 : Int32)), (0, .ref (am 0))]) dX9_unseenMany_28 rfl (by decide) rfl ?_
  refine g_iconst F (v := (0 : Int32)) dX9_unseenMany_29 (by decide) ?_
  refine g_istore_n F (lv' := [(2, .int (0 : Int32)), (1, .int (0 : Int32)), (0, .ref (am 0))]) dX9_unseenMany_30 rfl (by decide) rfl ?_
  refine Go.sub (lv' := [(0, .ref (am 0)), (1, .int (0 : Int32)), (2, .int (0 : Int32))]) [2, 1, 0] rfl ?_
  refine k_X9_unseenMany_31_ok am m_s m_seenItem m_seenMoved F Rq _ (fun x1_11 Mm_11 m_w_11 m_order_11 m_tried_11 m_movedIf_11 h => ?_) _ (0 : Int32) (0 : Int32) (upd Mm 35 (-9 : Int32)) m_w m_order m_tried m_movedIf_1 h
  refine g_iload_n F dX9_unseenMany_219 rfl 0 rfl ?_
  obtain rfl := Option.some.inj h
  exact g_iret F Rq rfl dX9_unseenMany_220
theorem hi_X9_unseen_X9 : ∀ w ∈ u_ws RX9 TX9 36, w ∈ wsX9_unseen := by decide +kernel
theorem fl_X9_unseen_75 : Cond.fieldLink RX9 75 "ArcOrderModel" "thrown" "I" ∈ wsX9_unseen := by decide +kernel
theorem fl_X9_unseen_244 : Cond.fieldLink RX9 244 "ArcOrderModel" "unseenFirst" "I" ∈ wsX9_unseen := by decide +kernel
abbrev rm_X9_unseen : Room := { frames := 4, cells := 0, slots := 0, locals := 98 }
set_option maxHeartbeats 4000000 in
set_option maxRecDepth 100000 in
theorem ok_X9_unseen (l : Launch) (D : va_G) (cy : Nat → ClassId) (am : Nat → Nat)  (Mm : ModS) (m_s : (Nat → Int32)) (m_w : (Nat → Int32)) (m_seenItem : (Nat → Int32)) (m_seenMoved : (Nat → Int32)) (m_order : (Nat → Int32)) (m_tried : (Nat → Int32)) (m_movedIf : (Nat → Int32)) (x1 : Int32) (out : Int32 × ModS × (Nat → Int32) × (Nat → Int32) × (Nat → Int32) × (Nat → Int32)) (h : f_X9_unseen Mm m_s m_w m_seenItem m_seenMoved m_order m_tried m_movedIf x1 = some out) : OK l D cy yX9_unseen wsX9_unseen rm_X9_unseen [.ref (am 0), .int x1] [(sMod cy am Mm), (sI cy (am 12) 24 m_s), (sI cy (am 13) 24 m_w), (sI cy (am 24) 6 m_seenItem), (sI cy (am 25) 6 m_seenMoved), (sI cy (am 33) 12 m_order), (sI cy (am 34) 24 m_tried), (sI cy (am 35) 12 m_movedIf)] (some (.int out.1)) [(sMod cy am out.2.1), (sI cy (am 12) 24 m_s), (sI cy (am 13) 24 out.2.2.1), (sI cy (am 24) 6 m_seenItem), (sI cy (am 25) 6 m_seenMoved), (sI cy (am 33) 12 out.2.2.2.1), (sI cy (am 34) 24 out.2.2.2.2.1), (sI cy (am 35) 12 out.2.2.2.2.2)] := by
  refine OKx.of (cc := cX9_unseen) (maxL := 3) (ret := (some .int)) (by decide) rfl (Nat.le_of_ble_eq_true rfl) (fun G F Rq => ?_)
  show Go G 0 0 0 [(0, .ref (am 0)), (1, .int x1)] [] [(sMod cy am Mm), (sI cy (am 12) 24 m_s), (sI cy (am 13) 24 m_w), (sI cy (am 24) 6 m_seenItem), (sI cy (am 25) 6 m_seenMoved), (sI cy (am 33) 12 m_order), (sI cy (am 34) 24 m_tried), (sI cy (am 35) 12 m_movedIf)]
  replace F : Fx G cX9_unseen wsX9_unseen RX9 cy 3 (rm_X9_unseen) := F
  replace Rq : Rx G "unseen" (some .int) (some (.int out.1)) (fun z => z = [(sMod cy am out.2.1), (sI cy (am 12) 24 m_s), (sI cy (am 13) 24 out.2.2.1), (sI cy (am 24) 6 m_seenItem), (sI cy (am 25) 6 m_seenMoved), (sI cy (am 33) 12 out.2.2.2.1), (sI cy (am 34) 24 out.2.2.2.2.1), (sI cy (am 35) 12 out.2.2.2.2.2)]) 0 0 := Rq
  unfold f_X9_unseen at h
  refine g_aload_n F dX9_unseen_0 rfl 0 rfl ?_
  refine g_iconst F (v := (0 : Int32)) dX9_unseen_1 (by decide) ?_
  refine g_put F (C := RX9) (T := TX9) (N := 36) (ci := 9) (v := .int (0 : Int32)) (ty := .int) (sg' := [(sMod cy am (upd Mm 0 (0 : Int32))), (sI cy (am 12) 24 m_s), (sI cy (am 13) 24 m_w), (sI cy (am 24) 6 m_seenItem), (sI cy (am 25) 6 m_seenMoved), (sI cy (am 33) 12 m_order), (sI cy (am 34) 24 m_tried), (sI cy (am 35) 12 m_movedIf)]) hi_X9_unseen_X9 tyX9 tyX9_ok nmX9 0 0 0 dX9_unseen_2 rfl rfl (by decide) fl_X9_unseen_75 rfl rfl rfl rfl (Nat.le_of_ble_eq_true rfl) rfl ?_
  refine g_iload_n F dX9_unseen_5 rfl 1 rfl ?_
  refine g_iconst F (v := (0 : Int32)) dX9_unseen_6 (by decide) ?_
  refine g_iconst F (v := (1 : Int32)) dX9_unseen_7 (by decide) ?_
  obtain ⟨r1, hr1, h⟩ := bnd h
  refine g_cS F [.int x1, .int (0 : Int32), .int (1 : Int32)] (ok_X9_in (gl G) (gD G) cy x1 (0 : Int32) (1 : Int32) r1 hr1) dX9_unseen_8 gX9_unseen_X9_in rfl cd_X9_in (by decide) rfl (Nat.le_of_ble_eq_true rfl) [] (by decide) rfl rfl (sg' := [(sMod cy am (upd Mm 0 (0 : Int32))), (sI cy (am 12) 24 m_s), (sI cy (am 13) 24 m_w), (sI cy (am 24) 6 m_seenItem), (sI cy (am 25) 6 m_seenMoved), (sI cy (am 33) 12 m_order), (sI cy (am 34) 24 m_tried), (sI cy (am 35) 12 m_movedIf)]) (st' := [.int r1]) rfl rfl ?_
  refine g_if_ne F 16 h dX9_unseen_11 (by decide) (fun h => ?_) (fun h => ?_)
  · refine g_aload_n F dX9_unseen_16 rfl 0 rfl ?_
    obtain ⟨r2, hr2, h⟩ := bnd h
    refine g_cV F [] 0 0 (ok_X9_unseenMany (gl G) (gD G) cy am (upd Mm 0 (0 : Int32)) m_s m_w m_seenItem m_seenMoved m_order m_tried m_movedIf r2 hr2) dX9_unseen_17 rfl rfl gX9_unseen_X9_unseenMany rfl ⟨rfl, cd_X9_unseenMany⟩ (by decide) rfl (Nat.le_of_ble_eq_true rfl) [0, 1, 2, 3, 4, 5, 6, 7] (by decide) rfl rfl (sg' := [(sMod cy am r2.2.1), (sI cy (am 12) 24 m_s), (sI cy (am 13) 24 r2.2.2.1), (sI cy (am 24) 6 m_seenItem), (sI cy (am 25) 6 m_seenMoved), (sI cy (am 33) 12 r2.2.2.2.1), (sI cy (am 34) 24 r2.2.2.2.2.1), (sI cy (am 35) 12 r2.2.2.2.2.2)]) (st' := [.int r2.1]) rfl rfl ?_
    refine g_istore_n F (lv' := [(2, .int r2.1), (0, .ref (am 0)), (1, .int x1)]) dX9_unseen_20 rfl (by decide) rfl ?_
    refine g_iload_n F dX9_unseen_21 rfl 2 rfl ?_
    refine g_if_ne F 29 h dX9_unseen_22 (by decide) (fun h => ?_) (fun h => ?_)
    · refine g_aload_n F dX9_unseen_29 rfl 1 rfl ?_
      refine g_get F (C := RX9) (T := TX9) (N := 36) (ci := 9) (v := .int (r2.2.1 35)) hi_X9_unseen_X9 0 0 35 dX9_unseen_30 rfl rfl (by decide) fl_X9_unseen_244 rfl ?_
      obtain rfl := Option.some.inj h
      exact g_iret F Rq rfl dX9_unseen_33
    · refine g_iload_n F dX9_unseen_25 rfl 0 rfl ?_
      refine g_goto F 33 dX9_unseen_26 (by decide) ?_
      obtain rfl := Option.some.inj h
      exact g_iret F Rq rfl dX9_unseen_33
  · refine g_iconst F (v := (-1 : Int32)) dX9_unseen_14 (by decide) ?_
    obtain rfl := Option.some.inj h
    exact g_iret F Rq rfl dX9_unseen_15
theorem hi_X9_look_X9 : ∀ w ∈ u_ws RX9 TX9 36, w ∈ wsX9_look := by decide +kernel
theorem fl_X9_look_75 : Cond.fieldLink RX9 75 "ArcOrderModel" "thrown" "I" ∈ wsX9_look := by decide +kernel
theorem fl_X9_look_145 : Cond.fieldLink RX9 145 "ArcOrderModel" "items" "I" ∈ wsX9_look := by decide +kernel
theorem fl_X9_look_66 : Cond.fieldLink RX9 66 "ArcOrderModel" "movedIf" "[I" ∈ wsX9_look := by decide +kernel
abbrev rm_X9_look : Room := { frames := 4, cells := 0, slots := 0, locals := 98 }
set_option maxHeartbeats 4000000 in
set_option maxRecDepth 100000 in
theorem k_X9_look_20_ok {G : GX} {cy : Nat → ClassId} (am : Nat → Nat)  (x1 : Int32) (Mm : ModS) (m_s : (Nat → Int32)) (m_w : (Nat → Int32)) (m_seenItem : (Nat → Int32)) (m_seenMoved : (Nat → Int32)) (m_order : (Nat → Int32)) (m_tried : (Nat → Int32)) (m_movedIf : (Nat → Int32)) {out : Int32 × ModS × (Nat → Int32) × (Nat → Int32) × (Nat → Int32) × (Nat → Int32)} (F : Fx G cX9_look wsX9_look RX9 cy 6 (rm_X9_look)) (Rq : Rx G "look" (some .int) (some (.int out.1)) (fun z => z = [(sMod cy am out.2.1), (sI cy (am 12) 24 m_s), (sI cy (am 13) 24 out.2.2.1), (sI cy (am 24) 6 m_seenItem), (sI cy (am 25) 6 m_seenMoved), (sI cy (am 33) 12 out.2.2.2.1), (sI cy (am 34) 24 out.2.2.2.2.1), (sI cy (am 35) 12 out.2.2.2.2.2)]) 0 0) (ke : Int32 → Option (Int32 × ModS × (Nat → Int32) × (Nat → Int32) × (Nat → Int32) × (Nat → Int32))) (hke : ∀ (x2 : Int32) , ke x2 = some out → Go G 0 0 106 [(2, .int x2)] [] [(sMod cy am Mm), (sI cy (am 12) 24 m_s), (sI cy (am 13) 24 m_w), (sI cy (am 24) 6 m_seenItem), (sI cy (am 25) 6 m_seenMoved), (sI cy (am 33) 12 m_order), (sI cy (am 34) 24 m_tried), (sI cy (am 35) 12 m_movedIf)]) : ∀ (n : Nat) (x2 : Int32) (x3 : Int32) (x4 : Int32) , k_X9_look_20 x1 Mm m_s m_w m_seenItem m_seenMoved m_order m_tried m_movedIf ke n x2 x3 x4 = some out → Go G 0 0 20 [(0, .ref (am 0)), (1, .int x1), (2, .int x2), (3, .int x3), (4, .int x4)] [] [(sMod cy am Mm), (sI cy (am 12) 24 m_s), (sI cy (am 13) 24 m_w), (sI cy (am 24) 6 m_seenItem), (sI cy (am 25) 6 m_seenMoved), (sI cy (am 33) 12 m_order), (sI cy (am 34) 24 m_tried), (sI cy (am 35) 12 m_movedIf)] := by
  intro n
  induction n with
  | zero =>
    intro x2 x3 x4 h
    exact nosome h
  | succ n ih =>
    intro x2 x3 x4 h
    rw [k_X9_look_20.eq_2] at h
    refine g_iload F dX9_look_20 4 rfl ?_
    refine g_aload_n F dX9_look_22 rfl 0 rfl ?_
    refine g_get F (C := RX9) (T := TX9) (N := 36) (ci := 9) (v := .int (Mm 8)) hi_X9_look_X9 0 0 8 dX9_look_23 rfl rfl (by decide) fl_X9_look_145 rfl ?_
    refine g_icmp_ge F 106 h dX9_look_26 (by decide) (fun h => ?_) (fun h => ?_)
    · refine Go.sub (lv' := [(2, .int x2)]) [2] rfl ?_
      exact hke x2 h
    · refine g_iload_n F dX9_look_29 rfl 1 rfl ?_
      refine g_iconst F (v := (1 : Int32)) dX9_look_30 (by decide) ?_
      refine g_icmp_le F 106 h dX9_look_31 (by decide) (fun h => ?_) (fun h => ?_)
      · refine Go.sub (lv' := [(2, .int x2)]) [2] rfl ?_
        exact hke x2 h
      · refine g_aload_n F dX9_look_34 rfl 0 rfl ?_
        refine g_get F (C := RX9) (T := TX9) (N := 36) (ci := 9) (v := .ref (am 35)) hi_X9_look_X9 0 0 34 dX9_look_35 rfl rfl (by decide) fl_X9_look_66 rfl ?_
        refine g_iload F dX9_look_38 4 rfl ?_
        refine g_iaload F h 7 0 dX9_look_40 rfl (fun h => ?_)
        refine g_iload_n F dX9_look_41 rfl 1 rfl ?_
        refine g_aload_n F dX9_look_42 rfl 0 rfl ?_
        refine g_get F (C := RX9) (T := TX9) (N := 36) (ci := 9) (v := .ref (am 35)) hi_X9_look_X9 0 0 34 dX9_look_43 rfl rfl (by decide) fl_X9_look_66 rfl ?_
        refine g_iload F dX9_look_46 4 rfl ?_
        refine g_iaload F h 7 0 dX9_look_48 rfl (fun h => ?_)
        refine g_isub F dX9_look_49 ?_
        refine g_icmp_le F 63 h dX9_look_50 (by decide) (fun h => ?_) (fun h => ?_)
        · refine g_iload_n F dX9_look_63 rfl 1 rfl ?_
          refine g_aload_n F dX9_look_64 rfl 0 rfl ?_
          refine g_get F (C := RX9) (T := TX9) (N := 36) (ci := 9) (v := .ref (am 35)) hi_X9_look_X9 0 0 34 dX9_look_65 rfl rfl (by decide) fl_X9_look_66 rfl ?_
          refine g_iload F dX9_look_68 4 rfl ?_
          refine g_iaload F h 7 0 dX9_look_70 rfl (fun h => ?_)
          refine g_isub F dX9_look_71 ?_
          refine g_istore F (lv' := [(5, .int (x1 - (m_movedIf (x4).toNatClampNeg))), (0, .ref (am 0)), (1, .int x1), (2, .int x2), (3, .int x3), (4, .int x4)]) dX9_look_72 (by decide) rfl ?_
          refine g_iload F dX9_look_74 0 rfl ?_
          refine g_iload_n F dX9_look_76 rfl 4 rfl ?_
          refine g_icmp_ge F 85 h dX9_look_77 (by decide) (fun h => ?_) (fun h => ?_)
          · refine g_iload_n F dX9_look_85 rfl 3 rfl ?_
            refine g_istore_n F (lv' := [(2, .int x2), (5, .int (x1 - (m_movedIf (x4).toNatClampNeg))), (0, .ref (am 0)), (1, .int x1), (3, .int x3), (4, .int x4)]) dX9_look_86 rfl (by decide) rfl ?_
            refine g_iload F dX9_look_87 1 rfl ?_
            refine g_iload_n F dX9_look_89 rfl 4 rfl ?_
            refine g_icmp_ge F 98 h dX9_look_90 (by decide) (fun h => ?_) (fun h => ?_)
            · refine g_iload_n F dX9_look_98 rfl 4 rfl ?_
              refine g_istore_n F (lv' := [(3, .int x3), (2, .int x2), (5, .int (x1 - (m_movedIf (x4).toNatClampNeg))), (0, .ref (am 0)), (1, .int x1), (4, .int x4)]) dX9_look_99 rfl (by decide) rfl ?_
              refine g_iinc F (v := (x4 + 1)) (lv' := [(4, .int (x4 + 1)), (3, .int x3), (2, .int x2), (5, .int (x1 - (m_movedIf (x4).toNatClampNeg))), (0, .ref (am 0)), (1, .int x1)]) dX9_look_100 5 rfl rfl (by decide) rfl ?_
              refine g_goto F 20 dX9_look_103 (by decide) ?_
              refine Go.sub (lv' := [(0, .ref (am 0)), (1, .int x1), (2, .int x2), (3, .int x3), (4, .int (x4 + 1))]) [4, 5, 2, 1, 0] rfl ?_
              exact ih x2 x3 (x4 + 1) h
            · refine g_iload F dX9_look_93 1 rfl ?_
              refine g_goto F 99 dX9_look_95 (by decide) ?_
              refine g_istore_n F (lv' := [(3, .int (x1 - (m_movedIf (x4).toNatClampNeg))), (2, .int x2), (5, .int (x1 - (m_movedIf (x4).toNatClampNeg))), (0, .ref (am 0)), (1, .int x1), (4, .int x4)]) dX9_look_99 rfl (by decide) rfl ?_
              refine g_iinc F (v := (x4 + 1)) (lv' := [(4, .int (x4 + 1)), (3, .int (x1 - (m_movedIf (x4).toNatClampNeg))), (2, .int x2), (5, .int (x1 - (m_movedIf (x4).toNatClampNeg))), (0, .ref (am 0)), (1, .int x1)]) dX9_look_100 5 rfl rfl (by decide) rfl ?_
              refine g_goto F 20 dX9_look_103 (by decide) ?_
              refine Go.sub (lv' := [(0, .ref (am 0)), (1, .int x1), (2, .int x2), (3, .int (x1 - (m_movedIf (x4).toNatClampNeg))), (4, .int (x4 + 1))]) [4, 5, 2, 1, 0] rfl ?_
              exact ih x2 (x1 - (m_movedIf (x4).toNatClampNeg)) (x4 + 1) h
          · refine g_iload F dX9_look_80 5 rfl ?_
            refine g_goto F 86 dX9_look_82 (by decide) ?_
            refine g_istore_n F (lv' := [(2, .int x4), (5, .int (x1 - (m_movedIf (x4).toNatClampNeg))), (0, .ref (am 0)), (1, .int x1), (3, .int x3), (4, .int x4)]) dX9_look_86 rfl (by decide) rfl ?_
            refine g_iload F dX9_look_87 1 rfl ?_
            refine g_iload_n F dX9_look_89 rfl 4 rfl ?_
            refine g_icmp_ge F 98 h dX9_look_90 (by decide) (fun h => ?_) (fun h => ?_)
            · refine g_iload_n F dX9_look_98 rfl 4 rfl ?_
              refine g_istore_n F (lv' := [(3, .int x3), (2, .int x4), (5, .int (x1 - (m_movedIf (x4).toNatClampNeg))), (0, .ref (am 0)), (1, .int x1), (4, .int x4)]) dX9_look_99 rfl (by decide) rfl ?_
              refine g_iinc F (v := (x4 + 1)) (lv' := [(4, .int (x4 + 1)), (3, .int x3), (2, .int x4), (5, .int (x1 - (m_movedIf (x4).toNatClampNeg))), (0, .ref (am 0)), (1, .int x1)]) dX9_look_100 5 rfl rfl (by decide) rfl ?_
              refine g_goto F 20 dX9_look_103 (by decide) ?_
              refine Go.sub (lv' := [(0, .ref (am 0)), (1, .int x1), (2, .int x4), (3, .int x3), (4, .int (x4 + 1))]) [4, 5, 2, 1, 0] rfl ?_
              exact ih x4 x3 (x4 + 1) h
            · refine g_iload F dX9_look_93 1 rfl ?_
              refine g_goto F 99 dX9_look_95 (by decide) ?_
              refine g_istore_n F (lv' := [(3, .int (x1 - (m_movedIf (x4).toNatClampNeg))), (2, .int x4), (5, .int (x1 - (m_movedIf (x4).toNatClampNeg))), (0, .ref (am 0)), (1, .int x1), (4, .int x4)]) dX9_look_99 rfl (by decide) rfl ?_
              refine g_iinc F (v := (x4 + 1)) (lv' := [(4, .int (x4 + 1)), (3, .int (x1 - (m_movedIf (x4).toNatClampNeg))), (2, .int x4), (5, .int (x1 - (m_movedIf (x4).toNatClampNeg))), (0, .ref (am 0)), (1, .int x1)]) dX9_look_100 5 rfl rfl (by decide) rfl ?_
              refine g_goto F 20 dX9_look_103 (by decide) ?_
              refine Go.sub (lv' := [(0, .ref (am 0)), (1, .int x1), (2, .int x4), (3, .int (x1 - (m_movedIf (x4).toNatClampNeg))), (4, .int (x4 + 1))]) [4, 5, 2, 1, 0] rfl ?_
              exact ih x4 (x1 - (m_movedIf (x4).toNatClampNeg)) (x4 + 1) h
        · refine g_aload_n F dX9_look_53 rfl 0 rfl ?_
          refine g_get F (C := RX9) (T := TX9) (N := 36) (ci := 9) (v := .ref (am 35)) hi_X9_look_X9 0 0 34 dX9_look_54 rfl rfl (by decide) fl_X9_look_66 rfl ?_
          refine g_iload F dX9_look_57 4 rfl ?_
          refine g_iaload F h 7 0 dX9_look_59 rfl (fun h => ?_)
          refine g_goto F 72 dX9_look_60 (by decide) ?_
          refine g_istore F (lv' := [(5, .int (m_movedIf (x4).toNatClampNeg)), (0, .ref (am 0)), (1, .int x1), (2, .int x2), (3, .int x3), (4, .int x4)]) dX9_look_72 (by decide) rfl ?_
          refine g_iload F dX9_look_74 0 rfl ?_
          refine g_iload_n F dX9_look_76 rfl 4 rfl ?_
          refine g_icmp_ge F 85 h dX9_look_77 (by decide) (fun h => ?_) (fun h => ?_)
          · refine g_iload_n F dX9_look_85 rfl 3 rfl ?_
            refine g_istore_n F (lv' := [(2, .int x2), (5, .int (m_movedIf (x4).toNatClampNeg)), (0, .ref (am 0)), (1, .int x1), (3, .int x3), (4, .int x4)]) dX9_look_86 rfl (by decide) rfl ?_
            refine g_iload F dX9_look_87 1 rfl ?_
            refine g_iload_n F dX9_look_89 rfl 4 rfl ?_
            refine g_icmp_ge F 98 h dX9_look_90 (by decide) (fun h => ?_) (fun h => ?_)
            · refine g_iload_n F dX9_look_98 rfl 4 rfl ?_
              refine g_istore_n F (lv' := [(3, .int x3), (2, .int x2), (5, .int (m_movedIf (x4).toNatClampNeg)), (0, .ref (am 0)), (1, .int x1), (4, .int x4)]) dX9_look_99 rfl (by decide) rfl ?_
              refine g_iinc F (v := (x4 + 1)) (lv' := [(4, .int (x4 + 1)), (3, .int x3), (2, .int x2), (5, .int (m_movedIf (x4).toNatClampNeg)), (0, .ref (am 0)), (1, .int x1)]) dX9_look_100 5 rfl rfl (by decide) rfl ?_
              refine g_goto F 20 dX9_look_103 (by decide) ?_
              refine Go.sub (lv' := [(0, .ref (am 0)), (1, .int x1), (2, .int x2), (3, .int x3), (4, .int (x4 + 1))]) [4, 5, 2, 1, 0] rfl ?_
              exact ih x2 x3 (x4 + 1) h
            · refine g_iload F dX9_look_93 1 rfl ?_
              refine g_goto F 99 dX9_look_95 (by decide) ?_
              refine g_istore_n F (lv' := [(3, .int (m_movedIf (x4).toNatClampNeg)), (2, .int x2), (5, .int (m_movedIf (x4).toNatClampNeg)), (0, .ref (am 0)), (1, .int x1), (4, .int x4)]) dX9_look_99 rfl (by decide) rfl ?_
              refine g_iinc F (v := (x4 + 1)) (lv' := [(4, .int (x4 + 1)), (3, .int (m_movedIf (x4).toNatClampNeg)), (2, .int x2), (5, .int (m_movedIf (x4).toNatClampNeg)), (0, .ref (am 0)), (1, .int x1)]) dX9_look_100 5 rfl rfl (by decide) rfl ?_
              refine g_goto F 20 dX9_look_103 (by decide) ?_
              refine Go.sub (lv' := [(0, .ref (am 0)), (1, .int x1), (2, .int x2), (3, .int (m_movedIf (x4).toNatClampNeg)), (4, .int (x4 + 1))]) [4, 5, 2, 1, 0] rfl ?_
              exact ih x2 (m_movedIf (x4).toNatClampNeg) (x4 + 1) h
          · refine g_iload F dX9_look_80 5 rfl ?_
            refine g_goto F 86 dX9_look_82 (by decide) ?_
            refine g_istore_n F (lv' := [(2, .int x4), (5, .int (m_movedIf (x4).toNatClampNeg)), (0, .ref (am 0)), (1, .int x1), (3, .int x3), (4, .int x4)]) dX9_look_86 rfl (by decide) rfl ?_
            refine g_iload F dX9_look_87 1 rfl ?_
            refine g_iload_n F dX9_look_89 rfl 4 rfl ?_
            refine g_icmp_ge F 98 h dX9_look_90 (by decide) (fun h => ?_) (fun h => ?_)
            · refine g_iload_n F dX9_look_98 rfl 4 rfl ?_
              refine g_istore_n F (lv' := [(3, .int x3), (2, .int x4), (5, .int (m_movedIf (x4).toNatClampNeg)), (0, .ref (am 0)), (1, .int x1), (4, .int x4)]) dX9_look_99 rfl (by decide) rfl ?_
              refine g_iinc F (v := (x4 + 1)) (lv' := [(4, .int (x4 + 1)), (3, .int x3), (2, .int x4), (5, .int (m_movedIf (x4).toNatClampNeg)), (0, .ref (am 0)), (1, .int x1)]) dX9_look_100 5 rfl rfl (by decide) rfl ?_
              refine g_goto F 20 dX9_look_103 (by decide) ?_
              refine Go.sub (lv' := [(0, .ref (am 0)), (1, .int x1), (2, .int x4), (3, .int x3), (4, .int (x4 + 1))]) [4, 5, 2, 1, 0] rfl ?_
              exact ih x4 x3 (x4 + 1) h
            · refine g_iload F dX9_look_93 1 rfl ?_
              refine g_goto F 99 dX9_look_95 (by decide) ?_
              refine g_istore_n F (lv' := [(3, .int (m_movedIf (x4).toNatClampNeg)), (2, .int x4), (5, .int (m_movedIf (x4).toNatClampNeg)), (0, .ref (am 0)), (1, .int x1), (4, .int x4)]) dX9_look_99 rfl (by decide) rfl ?_
              refine g_iinc F (v := (x4 + 1)) (lv' := [(4, .int (x4 + 1)), (3, .int (m_movedIf (x4).toNatClampNeg)), (2, .int x4), (5, .int (m_movedIf (x4).toNatClampNeg)), (0, .ref (am 0)), (1, .int x1)]) dX9_look_100 5 rfl rfl (by decide) rfl ?_
              refine g_goto F 20 dX9_look_103 (by decide) ?_
              refine Go.sub (lv' := [(0, .ref (am 0)), (1, .int x1), (2, .int x4), (3, .int (m_movedIf (x4).toNatClampNeg)), (4, .int (x4 + 1))]) [4, 5, 2, 1, 0] rfl ?_
              exact ih x4 (m_movedIf (x4).toNatClampNeg) (x4 + 1) h
set_option maxHeartbeats 4000000 in
set_option maxRecDepth 100000 in
theorem ok_X9_look (l : Launch) (D : va_G) (cy : Nat → ClassId) (am : Nat → Nat)  (Mm : ModS) (m_s : (Nat → Int32)) (m_w : (Nat → Int32)) (m_seenItem : (Nat → Int32)) (m_seenMoved : (Nat → Int32)) (m_order : (Nat → Int32)) (m_tried : (Nat → Int32)) (m_movedIf : (Nat → Int32))  (out : Int32 × ModS × (Nat → Int32) × (Nat → Int32) × (Nat → Int32) × (Nat → Int32)) (h : f_X9_look Mm m_s m_w m_seenItem m_seenMoved m_order m_tried m_movedIf = some out) : OK l D cy yX9_look wsX9_look rm_X9_look [.ref (am 0)] [(sMod cy am Mm), (sI cy (am 12) 24 m_s), (sI cy (am 13) 24 m_w), (sI cy (am 24) 6 m_seenItem), (sI cy (am 25) 6 m_seenMoved), (sI cy (am 33) 12 m_order), (sI cy (am 34) 24 m_tried), (sI cy (am 35) 12 m_movedIf)] (some (.int out.1)) [(sMod cy am out.2.1), (sI cy (am 12) 24 m_s), (sI cy (am 13) 24 out.2.2.1), (sI cy (am 24) 6 m_seenItem), (sI cy (am 25) 6 m_seenMoved), (sI cy (am 33) 12 out.2.2.2.1), (sI cy (am 34) 24 out.2.2.2.2.1), (sI cy (am 35) 12 out.2.2.2.2.2)] := by
  refine OKx.of (cc := cX9_look) (maxL := 6) (ret := (some .int)) (by decide) rfl (Nat.le_of_ble_eq_true rfl) (fun G F Rq => ?_)
  show Go G 0 0 0 [(0, .ref (am 0))] [] [(sMod cy am Mm), (sI cy (am 12) 24 m_s), (sI cy (am 13) 24 m_w), (sI cy (am 24) 6 m_seenItem), (sI cy (am 25) 6 m_seenMoved), (sI cy (am 33) 12 m_order), (sI cy (am 34) 24 m_tried), (sI cy (am 35) 12 m_movedIf)]
  replace F : Fx G cX9_look wsX9_look RX9 cy 6 (rm_X9_look) := F
  replace Rq : Rx G "look" (some .int) (some (.int out.1)) (fun z => z = [(sMod cy am out.2.1), (sI cy (am 12) 24 m_s), (sI cy (am 13) 24 out.2.2.1), (sI cy (am 24) 6 m_seenItem), (sI cy (am 25) 6 m_seenMoved), (sI cy (am 33) 12 out.2.2.2.1), (sI cy (am 34) 24 out.2.2.2.2.1), (sI cy (am 35) 12 out.2.2.2.2.2)]) 0 0 := Rq
  unfold f_X9_look at h
  refine g_aload_n F dX9_look_0 rfl 0 rfl ?_
  refine g_iconst F (v := (0 : Int32)) dX9_look_1 (by decide) ?_
  refine g_put F (C := RX9) (T := TX9) (N := 36) (ci := 9) (v := .int (0 : Int32)) (ty := .int) (sg' := [(sMod cy am (upd Mm 0 (0 : Int32))), (sI cy (am 12) 24 m_s), (sI cy (am 13) 24 m_w), (sI cy (am 24) 6 m_seenItem), (sI cy (am 25) 6 m_seenMoved), (sI cy (am 33) 12 m_order), (sI cy (am 34) 24 m_tried), (sI cy (am 35) 12 m_movedIf)]) hi_X9_look_X9 tyX9 tyX9_ok nmX9 0 0 0 dX9_look_2 rfl rfl (by decide) fl_X9_look_75 rfl rfl rfl rfl (Nat.le_of_ble_eq_true rfl) rfl ?_
  refine g_aload_n F dX9_look_5 rfl 0 rfl ?_
  obtain ⟨r1, hr1, h⟩ := bnd h
  refine g_cV F [] 0 0 (ok_X9_unseenMany (gl G) (gD G) cy am (upd Mm 0 (0 : Int32)) m_s m_w m_seenItem m_seenMoved m_order m_tried m_movedIf r1 hr1) dX9_look_6 rfl rfl gX9_look_X9_unseenMany rfl ⟨rfl, cd_X9_unseenMany⟩ (by decide) rfl (Nat.le_of_ble_eq_true rfl) [0, 1, 2, 3, 4, 5, 6, 7] (by decide) rfl rfl (sg' := [(sMod cy am r1.2.1), (sI cy (am 12) 24 m_s), (sI cy (am 13) 24 r1.2.2.1), (sI cy (am 24) 6 m_seenItem), (sI cy (am 25) 6 m_seenMoved), (sI cy (am 33) 12 r1.2.2.2.1), (sI cy (am 34) 24 r1.2.2.2.2.1), (sI cy (am 35) 12 r1.2.2.2.2.2)]) (st' := [.int r1.1]) rfl rfl ?_
  refine g_istore_n F (lv' := [(1, .int r1.1), (0, .ref (am 0))]) dX9_look_9 rfl (by decide) rfl ?_
  refine g_bipush F (v := (-9 : Int32)) dX9_look_10 (by decide) ?_
  refine g_istore_n F (lv' := [(2, .int (-9 : Int32)), (1, .int r1.1), (0, .ref (am 0))]) dX9_look_12 rfl (by decide) rfl ?_
  refine g_sipush F (v := (999 : Int32)) dX9_look_13 (by decide) ?_
  refine g_istore_n F (lv' := [(3, .int (999 : Int32)), (2, .int (-9 : Int32)), (1, .int r1.1), (0, .ref (am 0))]) dX9_look_16 rfl (by decide) rfl ?_
  refine g_iconst F (v := (0 : Int32)) dX9_look_17 (by decide) ?_
  refine g_istore F (lv' := [(4, .int (0 : Int32)), (3, .int (999 : Int32)), (2, .int (-9 : Int32)), (1, .int r1.1), (0, .ref (am 0))]) dX9_look_18 (by decide) rfl ?_
  refine Go.sub (lv' := [(0, .ref (am 0)), (1, .int r1.1), (2, .int (-9 : Int32)), (3, .int (999 : Int32)), (4, .int (0 : Int32))]) [4, 3, 2, 1, 0] rfl ?_
  refine k_X9_look_20_ok am r1.1 r1.2.1 m_s r1.2.2.1 m_seenItem m_seenMoved r1.2.2.2.1 r1.2.2.2.2.1 r1.2.2.2.2.2 F Rq _ (fun x2_2 h => ?_) _ (-9 : Int32) (999 : Int32) (0 : Int32) h
  refine g_iload_n F dX9_look_106 rfl 0 rfl ?_
  obtain rfl := Option.some.inj h
  exact g_iret F Rq rfl dX9_look_107
theorem hi_X9_keep_X9 : ∀ w ∈ u_ws RX9 TX9 36, w ∈ wsX9_keep := by decide +kernel
theorem fl_X9_keep_75 : Cond.fieldLink RX9 75 "ArcOrderModel" "thrown" "I" ∈ wsX9_keep := by decide +kernel
theorem fl_X9_keep_25 : Cond.fieldLink RX9 25 "ArcOrderModel" "kept" "[I" ∈ wsX9_keep := by decide +kernel
theorem fl_X9_keep_16 : Cond.fieldLink RX9 16 "ArcOrderModel" "s" "[I" ∈ wsX9_keep := by decide +kernel
theorem fl_X9_keep_28 : Cond.fieldLink RX9 28 "ArcOrderModel" "isKept" "[Z" ∈ wsX9_keep := by decide +kernel
abbrev rm_X9_keep : Room := { frames := 2, cells := 0, slots := 0, locals := 44 }
set_option maxHeartbeats 4000000 in
set_option maxRecDepth 100000 in
theorem k_X9_keep_18_ok {G : GX} {cy : Nat → ClassId} (am : Nat → Nat)  (x1 : Int32) (Mm : ModS) (m_s : (Nat → Int32)) (m_isKept : (Nat → Int32)) {out : Int32 × ModS × (Nat → Int32) × (Nat → Int32)} (F : Fx G cX9_keep wsX9_keep RX9 cy 3 (rm_X9_keep)) (Rq : Rx G "keep" (some .int) (some (.int out.1)) (fun z => z = [(sMod cy am out.2.1), (sI cy (am 12) 24 m_s), (sI cy (am 15) 48 out.2.2.1), (sZ cy (am 16) 2 out.2.2.2)]) 0 0) (ke : (Nat → Int32) → Option (Int32 × ModS × (Nat → Int32) × (Nat → Int32))) (hke : ∀  (m_kept : (Nat → Int32)), ke m_kept = some out → Go G 0 0 47 [(0, .ref (am 0)), (1, .int x1)] [] [(sMod cy am Mm), (sI cy (am 12) 24 m_s), (sI cy (am 15) 48 m_kept), (sZ cy (am 16) 2 m_isKept)]) : ∀ (n : Nat) (x2 : Int32) (m_kept : (Nat → Int32)), k_X9_keep_18 x1 Mm m_s m_isKept ke n x2 m_kept = some out → Go G 0 0 18 [(0, .ref (am 0)), (1, .int x1), (2, .int x2)] [] [(sMod cy am Mm), (sI cy (am 12) 24 m_s), (sI cy (am 15) 48 m_kept), (sZ cy (am 16) 2 m_isKept)] := by
  intro n
  induction n with
  | zero =>
    intro x2 m_kept h
    exact nosome h
  | succ n ih =>
    intro x2 m_kept h
    rw [k_X9_keep_18.eq_2] at h
    refine g_iload_n F dX9_keep_18 rfl 2 rfl ?_
    refine g_bipush F (v := (24 : Int32)) dX9_keep_19 (by decide) ?_
    refine g_icmp_ge F 47 h dX9_keep_21 (by decide) (fun h => ?_) (fun h => ?_)
    · refine Go.sub (lv' := [(0, .ref (am 0)), (1, .int x1)]) [0, 1] rfl ?_
      exact hke m_kept h
    · refine g_aload_n F dX9_keep_24 rfl 0 rfl ?_
      refine g_get F (C := RX9) (T := TX9) (N := 36) (ci := 9) (v := .ref (am 15)) hi_X9_keep_X9 0 0 14 dX9_keep_25 rfl rfl (by decide) fl_X9_keep_25 rfl ?_
      refine g_bipush F (v := (24 : Int32)) dX9_keep_28 (by decide) ?_
      refine g_iload_n F dX9_keep_30 rfl 1 rfl ?_
      refine g_imul F dX9_keep_31 ?_
      refine g_iload_n F dX9_keep_32 rfl 2 rfl ?_
      refine g_iadd F dX9_keep_33 ?_
      refine g_aload_n F dX9_keep_34 rfl 0 rfl ?_
      refine g_get F (C := RX9) (T := TX9) (N := 36) (ci := 9) (v := .ref (am 12)) hi_X9_keep_X9 0 0 11 dX9_keep_35 rfl rfl (by decide) fl_X9_keep_16 rfl ?_
      refine g_iload_n F dX9_keep_38 rfl 2 rfl ?_
      refine g_iaload F h 1 0 dX9_keep_39 rfl (fun h => ?_)
      refine g_iastore F h (sg' := [(sMod cy am Mm), (sI cy (am 12) 24 m_s), (sI cy (am 15) 48 (upd m_kept ((((24 : Int32) * x1) + x2)).toNatClampNeg (m_s (x2).toNatClampNeg))), (sZ cy (am 16) 2 m_isKept)]) 2 0 dX9_keep_40 rfl rfl (fun h => ?_)
      refine g_iinc F (v := (x2 + 1)) (lv' := [(2, .int (x2 + 1)), (0, .ref (am 0)), (1, .int x1)]) dX9_keep_41 2 rfl rfl (by decide) rfl ?_
      refine g_goto F 18 dX9_keep_44 (by decide) ?_
      refine Go.sub (lv' := [(0, .ref (am 0)), (1, .int x1), (2, .int (x2 + 1))]) [1, 2, 0] rfl ?_
      exact ih (x2 + 1) (upd m_kept ((((24 : Int32) * x1) + x2)).toNatClampNeg (m_s (x2).toNatClampNeg)) h
set_option maxHeartbeats 4000000 in
set_option maxRecDepth 100000 in
theorem ok_X9_keep (l : Launch) (D : va_G) (cy : Nat → ClassId) (am : Nat → Nat)  (Mm : ModS) (m_s : (Nat → Int32)) (m_kept : (Nat → Int32)) (m_isKept : (Nat → Int32)) (x1 : Int32) (out : Int32 × ModS × (Nat → Int32) × (Nat → Int32)) (h : f_X9_keep Mm m_s m_kept m_isKept x1 = some out) : OK l D cy yX9_keep wsX9_keep rm_X9_keep [.ref (am 0), .int x1] [(sMod cy am Mm), (sI cy (am 12) 24 m_s), (sI cy (am 15) 48 m_kept), (sZ cy (am 16) 2 m_isKept)] (some (.int out.1)) [(sMod cy am out.2.1), (sI cy (am 12) 24 m_s), (sI cy (am 15) 48 out.2.2.1), (sZ cy (am 16) 2 out.2.2.2)] := by
  refine OKx.of (cc := cX9_keep) (maxL := 3) (ret := (some .int)) (by decide) rfl (Nat.le_of_ble_eq_true rfl) (fun G F Rq => ?_)
  show Go G 0 0 0 [(0, .ref (am 0)), (1, .int x1)] [] [(sMod cy am Mm), (sI cy (am 12) 24 m_s), (sI cy (am 15) 48 m_kept), (sZ cy (am 16) 2 m_isKept)]
  replace F : Fx G cX9_keep wsX9_keep RX9 cy 3 (rm_X9_keep) := F
  replace Rq : Rx G "keep" (some .int) (some (.int out.1)) (fun z => z = [(sMod cy am out.2.1), (sI cy (am 12) 24 m_s), (sI cy (am 15) 48 out.2.2.1), (sZ cy (am 16) 2 out.2.2.2)]) 0 0 := Rq
  unfold f_X9_keep at h
  refine g_aload_n F dX9_keep_0 rfl 0 rfl ?_
  refine g_iconst F (v := (0 : Int32)) dX9_keep_1 (by decide) ?_
  refine g_put F (C := RX9) (T := TX9) (N := 36) (ci := 9) (v := .int (0 : Int32)) (ty := .int) (sg' := [(sMod cy am (upd Mm 0 (0 : Int32))), (sI cy (am 12) 24 m_s), (sI cy (am 15) 48 m_kept), (sZ cy (am 16) 2 m_isKept)]) hi_X9_keep_X9 tyX9 tyX9_ok nmX9 0 0 0 dX9_keep_2 rfl rfl (by decide) fl_X9_keep_75 rfl rfl rfl rfl (Nat.le_of_ble_eq_true rfl) rfl ?_
  refine g_iload_n F dX9_keep_5 rfl 1 rfl ?_
  refine g_iconst F (v := (0 : Int32)) dX9_keep_6 (by decide) ?_
  refine g_iconst F (v := (1 : Int32)) dX9_keep_7 (by decide) ?_
  obtain ⟨r1, hr1, h⟩ := bnd h
  refine g_cS F [.int x1, .int (0 : Int32), .int (1 : Int32)] (ok_X9_in (gl G) (gD G) cy x1 (0 : Int32) (1 : Int32) r1 hr1) dX9_keep_8 gX9_keep_X9_in rfl cd_X9_in (by decide) rfl (Nat.le_of_ble_eq_true rfl) [] (by decide) rfl rfl (sg' := [(sMod cy am (upd Mm 0 (0 : Int32))), (sI cy (am 12) 24 m_s), (sI cy (am 15) 48 m_kept), (sZ cy (am 16) 2 m_isKept)]) (st' := [.int r1]) rfl rfl ?_
  refine g_if_ne F 16 h dX9_keep_11 (by decide) (fun h => ?_) (fun h => ?_)
  · refine g_iconst F (v := (0 : Int32)) dX9_keep_16 (by decide) ?_
    refine g_istore_n F (lv' := [(2, .int (0 : Int32)), (0, .ref (am 0)), (1, .int x1)]) dX9_keep_17 rfl (by decide) rfl ?_
    refine Go.sub (lv' := [(0, .ref (am 0)), (1, .int x1), (2, .int (0 : Int32))]) [1, 2, 0] rfl ?_
    refine k_X9_keep_18_ok am x1 (upd Mm 0 (0 : Int32)) m_s m_isKept F Rq _ (fun m_kept_2 h => ?_) _ (0 : Int32) m_kept h
    refine g_aload_n F dX9_keep_47 rfl 0 rfl ?_
    refine g_get F (C := RX9) (T := TX9) (N := 36) (ci := 9) (v := .ref (am 16)) hi_X9_keep_X9 0 0 15 dX9_keep_48 rfl rfl (by decide) fl_X9_keep_28 rfl ?_
    refine g_iload_n F dX9_keep_51 rfl 1 rfl ?_
    refine g_iconst F (v := (1 : Int32)) dX9_keep_52 (by decide) ?_
    refine g_zastore F h (sg' := [(sMod cy am (upd Mm 0 (0 : Int32))), (sI cy (am 12) 24 m_s), (sI cy (am 15) 48 m_kept_2), (sZ cy (am 16) 2 (upd m_isKept (x1).toNatClampNeg (vp_nar .boolean (1 : Int32))))]) 3 0 dX9_keep_53 rfl rfl (fun h => ?_)
    refine g_aload_n F dX9_keep_54 rfl 0 rfl ?_
    obtain ⟨r3, hr3, h⟩ := bnd h
    refine g_cV F [] 0 0 (ok_X9_arcs (gl G) (gD G) cy am (upd Mm 0 (0 : Int32)) m_s r3 hr3) dX9_keep_55 rfl rfl gX9_keep_X9_arcs rfl ⟨rfl, cd_X9_arcs⟩ (by decide) rfl (Nat.le_of_ble_eq_true rfl) [0, 1] (by decide) rfl rfl (sg' := [(sMod cy am (upd Mm 0 (0 : Int32))), (sI cy (am 12) 24 m_s), (sI cy (am 15) 48 m_kept_2), (sZ cy (am 16) 2 (upd m_isKept (x1).toNatClampNeg (vp_nar .boolean (1 : Int32))))]) (st' := [.int r3]) rfl rfl ?_
    obtain rfl := Option.some.inj h
    exact g_iret F Rq rfl dX9_keep_58
  · refine g_iconst F (v := (-1 : Int32)) dX9_keep_14 (by decide) ?_
    obtain rfl := Option.some.inj h
    exact g_iret F Rq rfl dX9_keep_15
theorem hi_X9_back_X9 : ∀ w ∈ u_ws RX9 TX9 36, w ∈ wsX9_back := by decide +kernel
theorem fl_X9_back_75 : Cond.fieldLink RX9 75 "ArcOrderModel" "thrown" "I" ∈ wsX9_back := by decide +kernel
theorem fl_X9_back_28 : Cond.fieldLink RX9 28 "ArcOrderModel" "isKept" "[Z" ∈ wsX9_back := by decide +kernel
theorem fl_X9_back_16 : Cond.fieldLink RX9 16 "ArcOrderModel" "s" "[I" ∈ wsX9_back := by decide +kernel
theorem fl_X9_back_25 : Cond.fieldLink RX9 25 "ArcOrderModel" "kept" "[I" ∈ wsX9_back := by decide +kernel
theorem fl_X9_back_158 : Cond.fieldLink RX9 158 "ArcOrderModel" "undoMany" "I" ∈ wsX9_back := by decide +kernel
abbrev rm_X9_back : Room := { frames := 2, cells := 0, slots := 0, locals := 44 }
set_option maxHeartbeats 4000000 in
set_option maxRecDepth 100000 in
theorem k_X9_back_30_ok {G : GX} {cy : Nat → ClassId} (am : Nat → Nat)  (x1 : Int32) (Mm : ModS) (m_kept : (Nat → Int32)) (m_isKept : (Nat → Int32)) {out : Int32 × ModS × (Nat → Int32)} (F : Fx G cX9_back wsX9_back RX9 cy 3 (rm_X9_back)) (Rq : Rx G "back" (some .int) (some (.int out.1)) (fun z => z = [(sMod cy am out.2.1), (sI cy (am 12) 24 out.2.2), (sI cy (am 15) 48 m_kept), (sZ cy (am 16) 2 m_isKept)]) 0 0) (ke : (Nat → Int32) → Option (Int32 × ModS × (Nat → Int32))) (hke : ∀  (m_s : (Nat → Int32)), ke m_s = some out → Go G 0 0 59 [(0, .ref (am 0))] [] [(sMod cy am Mm), (sI cy (am 12) 24 m_s), (sI cy (am 15) 48 m_kept), (sZ cy (am 16) 2 m_isKept)]) : ∀ (n : Nat) (x2 : Int32) (m_s : (Nat → Int32)), k_X9_back_30 x1 Mm m_kept m_isKept ke n x2 m_s = some out → Go G 0 0 30 [(0, .ref (am 0)), (1, .int x1), (2, .int x2)] [] [(sMod cy am Mm), (sI cy (am 12) 24 m_s), (sI cy (am 15) 48 m_kept), (sZ cy (am 16) 2 m_isKept)] := by
  intro n
  induction n with
  | zero =>
    intro x2 m_s h
    exact nosome h
  | succ n ih =>
    intro x2 m_s h
    rw [k_X9_back_30.eq_2] at h
    refine g_iload_n F dX9_back_30 rfl 2 rfl ?_
    refine g_bipush F (v := (24 : Int32)) dX9_back_31 (by decide) ?_
    refine g_icmp_ge F 59 h dX9_back_33 (by decide) (fun h => ?_) (fun h => ?_)
    · refine Go.sub (lv' := [(0, .ref (am 0))]) [0] rfl ?_
      exact hke m_s h
    · refine g_aload_n F dX9_back_36 rfl 0 rfl ?_
      refine g_get F (C := RX9) (T := TX9) (N := 36) (ci := 9) (v := .ref (am 12)) hi_X9_back_X9 0 0 11 dX9_back_37 rfl rfl (by decide) fl_X9_back_16 rfl ?_
      refine g_iload_n F dX9_back_40 rfl 2 rfl ?_
      refine g_aload_n F dX9_back_41 rfl 0 rfl ?_
      refine g_get F (C := RX9) (T := TX9) (N := 36) (ci := 9) (v := .ref (am 15)) hi_X9_back_X9 0 0 14 dX9_back_42 rfl rfl (by decide) fl_X9_back_25 rfl ?_
      refine g_bipush F (v := (24 : Int32)) dX9_back_45 (by decide) ?_
      refine g_iload_n F dX9_back_47 rfl 1 rfl ?_
      refine g_imul F dX9_back_48 ?_
      refine g_iload_n F dX9_back_49 rfl 2 rfl ?_
      refine g_iadd F dX9_back_50 ?_
      refine g_iaload F h 2 0 dX9_back_51 rfl (fun h => ?_)
      refine g_iastore F h (sg' := [(sMod cy am Mm), (sI cy (am 12) 24 (upd m_s (x2).toNatClampNeg (m_kept ((((24 : Int32) * x1) + x2)).toNatClampNeg))), (sI cy (am 15) 48 m_kept), (sZ cy (am 16) 2 m_isKept)]) 1 0 dX9_back_52 rfl rfl (fun h => ?_)
      refine g_iinc F (v := (x2 + 1)) (lv' := [(2, .int (x2 + 1)), (0, .ref (am 0)), (1, .int x1)]) dX9_back_53 2 rfl rfl (by decide) rfl ?_
      refine g_goto F 30 dX9_back_56 (by decide) ?_
      refine Go.sub (lv' := [(0, .ref (am 0)), (1, .int x1), (2, .int (x2 + 1))]) [1, 2, 0] rfl ?_
      exact ih (x2 + 1) (upd m_s (x2).toNatClampNeg (m_kept ((((24 : Int32) * x1) + x2)).toNatClampNeg)) h
set_option maxHeartbeats 4000000 in
set_option maxRecDepth 100000 in
theorem ok_X9_back (l : Launch) (D : va_G) (cy : Nat → ClassId) (am : Nat → Nat)  (Mm : ModS) (m_s : (Nat → Int32)) (m_kept : (Nat → Int32)) (m_isKept : (Nat → Int32)) (x1 : Int32) (out : Int32 × ModS × (Nat → Int32)) (h : f_X9_back Mm m_s m_kept m_isKept x1 = some out) : OK l D cy yX9_back wsX9_back rm_X9_back [.ref (am 0), .int x1] [(sMod cy am Mm), (sI cy (am 12) 24 m_s), (sI cy (am 15) 48 m_kept), (sZ cy (am 16) 2 m_isKept)] (some (.int out.1)) [(sMod cy am out.2.1), (sI cy (am 12) 24 out.2.2), (sI cy (am 15) 48 m_kept), (sZ cy (am 16) 2 m_isKept)] := by
  refine OKx.of (cc := cX9_back) (maxL := 3) (ret := (some .int)) (by decide) rfl (Nat.le_of_ble_eq_true rfl) (fun G F Rq => ?_)
  show Go G 0 0 0 [(0, .ref (am 0)), (1, .int x1)] [] [(sMod cy am Mm), (sI cy (am 12) 24 m_s), (sI cy (am 15) 48 m_kept), (sZ cy (am 16) 2 m_isKept)]
  replace F : Fx G cX9_back wsX9_back RX9 cy 3 (rm_X9_back) := F
  replace Rq : Rx G "back" (some .int) (some (.int out.1)) (fun z => z = [(sMod cy am out.2.1), (sI cy (am 12) 24 out.2.2), (sI cy (am 15) 48 m_kept), (sZ cy (am 16) 2 m_isKept)]) 0 0 := Rq
  unfold f_X9_back at h
  refine g_aload_n F dX9_back_0 rfl 0 rfl ?_
  refine g_iconst F (v := (0 : Int32)) dX9_back_1 (by decide) ?_
  refine g_put F (C := RX9) (T := TX9) (N := 36) (ci := 9) (v := .int (0 : Int32)) (ty := .int) (sg' := [(sMod cy am (upd Mm 0 (0 : Int32))), (sI cy (am 12) 24 m_s), (sI cy (am 15) 48 m_kept), (sZ cy (am 16) 2 m_isKept)]) hi_X9_back_X9 tyX9 tyX9_ok nmX9 0 0 0 dX9_back_2 rfl rfl (by decide) fl_X9_back_75 rfl rfl rfl rfl (Nat.le_of_ble_eq_true rfl) rfl ?_
  refine g_iload_n F dX9_back_5 rfl 1 rfl ?_
  refine g_iconst F (v := (0 : Int32)) dX9_back_6 (by decide) ?_
  refine g_iconst F (v := (1 : Int32)) dX9_back_7 (by decide) ?_
  obtain ⟨r1, hr1, h⟩ := bnd h
  refine g_cS F [.int x1, .int (0 : Int32), .int (1 : Int32)] (ok_X9_in (gl G) (gD G) cy x1 (0 : Int32) (1 : Int32) r1 hr1) dX9_back_8 gX9_back_X9_in rfl cd_X9_in (by decide) rfl (Nat.le_of_ble_eq_true rfl) [] (by decide) rfl rfl (sg' := [(sMod cy am (upd Mm 0 (0 : Int32))), (sI cy (am 12) 24 m_s), (sI cy (am 15) 48 m_kept), (sZ cy (am 16) 2 m_isKept)]) (st' := [.int r1]) rfl rfl ?_
  refine g_if_ne F 16 h dX9_back_11 (by decide) (fun h => ?_) (fun h => ?_)
  · refine g_aload_n F dX9_back_16 rfl 0 rfl ?_
    refine g_get F (C := RX9) (T := TX9) (N := 36) (ci := 9) (v := .ref (am 16)) hi_X9_back_X9 0 0 15 dX9_back_17 rfl rfl (by decide) fl_X9_back_28 rfl ?_
    refine g_iload_n F dX9_back_20 rfl 1 rfl ?_
    refine g_zaload F h 3 0 dX9_back_21 rfl (fun h => ?_)
    refine g_if_ne F 28 h dX9_back_22 (by decide) (fun h => ?_) (fun h => ?_)
    · refine g_iconst F (v := (0 : Int32)) dX9_back_28 (by decide) ?_
      refine g_istore_n F (lv' := [(2, .int (0 : Int32)), (0, .ref (am 0)), (1, .int x1)]) dX9_back_29 rfl (by decide) rfl ?_
      refine Go.sub (lv' := [(0, .ref (am 0)), (1, .int x1), (2, .int (0 : Int32))]) [1, 2, 0] rfl ?_
      refine k_X9_back_30_ok am x1 (upd Mm 0 (0 : Int32)) m_kept m_isKept F Rq _ (fun m_s_2 h => ?_) _ (0 : Int32) m_s h
      refine g_aload_n F dX9_back_59 rfl 0 rfl ?_
      refine g_iconst F (v := (0 : Int32)) dX9_back_60 (by decide) ?_
      refine g_put F (C := RX9) (T := TX9) (N := 36) (ci := 9) (v := .int (0 : Int32)) (ty := .int) (sg' := [(sMod cy am (upd (upd Mm 0 (0 : Int32)) 17 (0 : Int32))), (sI cy (am 12) 24 m_s_2), (sI cy (am 15) 48 m_kept), (sZ cy (am 16) 2 m_isKept)]) hi_X9_back_X9 tyX9 tyX9_ok nmX9 0 0 17 dX9_back_61 rfl rfl (by decide) fl_X9_back_158 rfl rfl rfl rfl (Nat.le_of_ble_eq_true rfl) rfl ?_
      refine g_aload_n F dX9_back_64 rfl 0 rfl ?_
      obtain ⟨r3, hr3, h⟩ := bnd h
      refine g_cV F [] 0 0 (ok_X9_arcs (gl G) (gD G) cy am (upd (upd Mm 0 (0 : Int32)) 17 (0 : Int32)) m_s_2 r3 hr3) dX9_back_65 rfl rfl gX9_back_X9_arcs rfl ⟨rfl, cd_X9_arcs⟩ (by decide) rfl (Nat.le_of_ble_eq_true rfl) [0, 1] (by decide) rfl rfl (sg' := [(sMod cy am (upd (upd Mm 0 (0 : Int32)) 17 (0 : Int32))), (sI cy (am 12) 24 m_s_2), (sI cy (am 15) 48 m_kept), (sZ cy (am 16) 2 m_isKept)]) (st' := [.int r3]) rfl rfl ?_
      obtain rfl := Option.some.inj h
      exact g_iret F Rq rfl dX9_back_68
    · refine g_bipush F (v := (-2 : Int32)) dX9_back_25 (by decide) ?_
      obtain rfl := Option.some.inj h
      exact g_iret F Rq rfl dX9_back_27
  · refine g_iconst F (v := (-1 : Int32)) dX9_back_14 (by decide) ?_
    obtain rfl := Option.some.inj h
    exact g_iret F Rq rfl dX9_back_15
theorem hi_X9_count_X9 : ∀ w ∈ u_ws RX9 TX9 36, w ∈ wsX9_count := by decide +kernel
theorem fl_X9_count_75 : Cond.fieldLink RX9 75 "ArcOrderModel" "thrown" "I" ∈ wsX9_count := by decide +kernel
theorem fl_X9_count_83 : Cond.fieldLink RX9 83 "ArcOrderModel" "typed" "I" ∈ wsX9_count := by decide +kernel
theorem fl_X9_count_155 : Cond.fieldLink RX9 155 "ArcOrderModel" "seenMany" "I" ∈ wsX9_count := by decide +kernel
theorem fl_X9_count_152 : Cond.fieldLink RX9 152 "ArcOrderModel" "listed" "I" ∈ wsX9_count := by decide +kernel
theorem fl_X9_count_145 : Cond.fieldLink RX9 145 "ArcOrderModel" "items" "I" ∈ wsX9_count := by decide +kernel
abbrev rm_X9_count : Room := { frames := 0, cells := 0, slots := 0, locals := 0 }
set_option maxHeartbeats 4000000 in
set_option maxRecDepth 100000 in
theorem ok_X9_count (l : Launch) (D : va_G) (cy : Nat → ClassId) (am : Nat → Nat)  (Mm : ModS) (x1 : Int32) (out : Int32 × ModS) (h : f_X9_count Mm x1 = some out) : OK l D cy yX9_count wsX9_count rm_X9_count [.ref (am 0), .int x1] [(sMod cy am Mm)] (some (.int out.1)) [(sMod cy am out.2)] := by
  refine OKx.of (cc := cX9_count) (maxL := 2) (ret := (some .int)) (by decide) rfl (Nat.le_of_ble_eq_true rfl) (fun G F Rq => ?_)
  show Go G 0 0 0 [(0, .ref (am 0)), (1, .int x1)] [] [(sMod cy am Mm)]
  replace F : Fx G cX9_count wsX9_count RX9 cy 2 (rm_X9_count) := F
  replace Rq : Rx G "count" (some .int) (some (.int out.1)) (fun z => z = [(sMod cy am out.2)]) 0 0 := Rq
  unfold f_X9_count at h
  refine g_aload_n F dX9_count_0 rfl 0 rfl ?_
  refine g_iconst F (v := (0 : Int32)) dX9_count_1 (by decide) ?_
  refine g_put F (C := RX9) (T := TX9) (N := 36) (ci := 9) (v := .int (0 : Int32)) (ty := .int) (sg' := [(sMod cy am (upd Mm 0 (0 : Int32)))]) hi_X9_count_X9 tyX9 tyX9_ok nmX9 0 0 0 dX9_count_2 rfl rfl (by decide) fl_X9_count_75 rfl rfl rfl rfl (Nat.le_of_ble_eq_true rfl) rfl ?_
  refine g_iload_n F dX9_count_5 rfl 1 rfl ?_
  refine g_if_ne F 16 h dX9_count_6 (by decide) (fun h => ?_) (fun h => ?_)
  · refine g_iload_n F dX9_count_16 rfl 1 rfl ?_
    refine g_iconst F (v := (1 : Int32)) dX9_count_17 (by decide) ?_
    refine g_icmp_ne F 28 h dX9_count_18 (by decide) (fun h => ?_) (fun h => ?_)
    · refine g_iload_n F dX9_count_28 rfl 1 rfl ?_
      refine g_iconst F (v := (2 : Int32)) dX9_count_29 (by decide) ?_
      refine g_icmp_ne F 40 h dX9_count_30 (by decide) (fun h => ?_) (fun h => ?_)
      · refine g_iload_n F dX9_count_40 rfl 1 rfl ?_
        refine g_iconst F (v := (3 : Int32)) dX9_count_41 (by decide) ?_
        refine g_icmp_ne F 52 h dX9_count_42 (by decide) (fun h => ?_) (fun h => ?_)
        · refine g_iconst F (v := (-1 : Int32)) dX9_count_52 (by decide) ?_
          obtain rfl := Option.some.inj h
          exact g_iret F Rq rfl dX9_count_53
        · refine g_aload_n F dX9_count_45 rfl 0 rfl ?_
          refine g_get F (C := RX9) (T := TX9) (N := 36) (ci := 9) (v := .int (Mm 2)) hi_X9_count_X9 0 0 2 dX9_count_46 rfl rfl (by decide) fl_X9_count_83 rfl ?_
          refine g_goto F 53 dX9_count_49 (by decide) ?_
          obtain rfl := Option.some.inj h
          exact g_iret F Rq rfl dX9_count_53
      · refine g_aload_n F dX9_count_33 rfl 0 rfl ?_
        refine g_get F (C := RX9) (T := TX9) (N := 36) (ci := 9) (v := .int (Mm 25)) hi_X9_count_X9 0 0 25 dX9_count_34 rfl rfl (by decide) fl_X9_count_155 rfl ?_
        refine g_goto F 53 dX9_count_37 (by decide) ?_
        obtain rfl := Option.some.inj h
        exact g_iret F Rq rfl dX9_count_53
    · refine g_aload_n F dX9_count_21 rfl 0 rfl ?_
      refine g_get F (C := RX9) (T := TX9) (N := 36) (ci := 9) (v := .int (Mm 20)) hi_X9_count_X9 0 0 20 dX9_count_22 rfl rfl (by decide) fl_X9_count_152 rfl ?_
      refine g_goto F 53 dX9_count_25 (by decide) ?_
      obtain rfl := Option.some.inj h
      exact g_iret F Rq rfl dX9_count_53
  · refine g_aload_n F dX9_count_9 rfl 0 rfl ?_
    refine g_get F (C := RX9) (T := TX9) (N := 36) (ci := 9) (v := .int (Mm 8)) hi_X9_count_X9 0 0 8 dX9_count_10 rfl rfl (by decide) fl_X9_count_145 rfl ?_
    refine g_goto F 53 dX9_count_13 (by decide) ?_
    obtain rfl := Option.some.inj h
    exact g_iret F Rq rfl dX9_count_53
