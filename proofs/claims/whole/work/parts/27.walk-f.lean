theorem hi_X9_rings_X9 : ∀ w ∈ u_ws RX9 TX9 36, w ∈ wsX9_rings := by decide +kernel
theorem fl_X9_rings_145 : Cond.fieldLink RX9 145 "ArcOrderModel" "items" "I" ∈ wsX9_rings := by decide +kernel
theorem fl_X9_rings_50 : Cond.fieldLink RX9 50 "ArcOrderModel" "far" "[I" ∈ wsX9_rings := by decide +kernel
theorem fl_X9_rings_182 : Cond.fieldLink RX9 182 "ArcOrderModel" "ringMany" "I" ∈ wsX9_rings := by decide +kernel
theorem fl_X9_rings_41 : Cond.fieldLink RX9 41 "ArcOrderModel" "ring" "[I" ∈ wsX9_rings := by decide +kernel
abbrev rm_X9_rings : Room := { frames := 1, cells := 0, slots := 0, locals := 21 }
set_option maxHeartbeats 4000000 in
set_option maxRecDepth 100000 in
theorem k_X9_rings_3_ok {G : GX} {cy : Nat → ClassId} (am : Nat → Nat) (h1 : Nat)  (x2 : Int32) (x3 : Int32) (Mm : ModS) (m_ring : (Nat → Int32)) (A1 : (Nat → Int32)) {out : ModS × (Nat → Int32) × (Nat → Int32)} (F : Fx G cX9_rings wsX9_rings RX9 cy 7 (rm_X9_rings)) (Rq : Rx G "rings" none none (fun z => z = [(sMod cy am out.1), (sI cy (am 22) 12 out.2.1), (sI cy (am 30) 12 out.2.2), (sI cy h1 24 A1)]) 0 0) (ke : (Nat → Int32) → Option (ModS × (Nat → Int32) × (Nat → Int32))) (hke : ∀  (m_far : (Nat → Int32)), ke m_far = some out → Go G 0 0 36 [(0, .ref (am 0)), (1, .ref h1), (2, .int x2)] [] [(sMod cy am Mm), (sI cy (am 22) 12 m_ring), (sI cy (am 30) 12 m_far), (sI cy h1 24 A1)]) : ∀ (n : Nat) (x4 : Int32) (m_far : (Nat → Int32)), k_X9_rings_3 x2 x3 Mm m_ring A1 ke n x4 m_far = some out → Go G 0 0 3 [(0, .ref (am 0)), (1, .ref h1), (2, .int x2), (3, .int x3), (4, .int x4)] [] [(sMod cy am Mm), (sI cy (am 22) 12 m_ring), (sI cy (am 30) 12 m_far), (sI cy h1 24 A1)] := by
  intro n
  induction n with
  | zero =>
    intro x4 m_far h
    exact nosome h
  | succ n ih =>
    intro x4 m_far h
    rw [k_X9_rings_3.eq_2] at h
    refine g_iload F dX9_rings_3 4 rfl ?_
    refine g_aload_n F dX9_rings_5 rfl 0 rfl ?_
    refine g_get F (C := RX9) (T := TX9) (N := 36) (ci := 9) (v := .int (Mm 8)) hi_X9_rings_X9 0 0 8 dX9_rings_6 rfl rfl (by decide) fl_X9_rings_145 rfl ?_
    refine g_icmp_ge F 36 h dX9_rings_9 (by decide) (fun h => ?_) (fun h => ?_)
    · refine Go.sub (lv' := [(0, .ref (am 0)), (1, .ref h1), (2, .int x2)]) [0, 1, 2] rfl ?_
      exact hke m_far h
    · refine g_aload_n F dX9_rings_12 rfl 0 rfl ?_
      refine g_get F (C := RX9) (T := TX9) (N := 36) (ci := 9) (v := .ref (am 30)) hi_X9_rings_X9 0 0 29 dX9_rings_13 rfl rfl (by decide) fl_X9_rings_50 rfl ?_
      refine g_iload F dX9_rings_16 4 rfl ?_
      refine g_iload F dX9_rings_18 4 rfl ?_
      refine g_iload_n F dX9_rings_20 rfl 3 rfl ?_
      refine g_icmp_ne F 28 h dX9_rings_21 (by decide) (fun h => ?_) (fun h => ?_)
      · refine g_iconst F (v := (-1 : Int32)) dX9_rings_28 (by decide) ?_
        refine g_iastore F h (sg' := [(sMod cy am Mm), (sI cy (am 22) 12 m_ring), (sI cy (am 30) 12 (upd m_far (x4).toNatClampNeg (-1 : Int32))), (sI cy h1 24 A1)]) 2 0 dX9_rings_29 rfl rfl (fun h => ?_)
        refine g_iinc F (v := (x4 + 1)) (lv' := [(4, .int (x4 + 1)), (0, .ref (am 0)), (1, .ref h1), (2, .int x2), (3, .int x3)]) dX9_rings_30 4 rfl rfl (by decide) rfl ?_
        refine g_goto F 3 dX9_rings_33 (by decide) ?_
        refine Go.sub (lv' := [(0, .ref (am 0)), (1, .ref h1), (2, .int x2), (3, .int x3), (4, .int (x4 + 1))]) [1, 2, 3, 4, 0] rfl ?_
        exact ih (x4 + 1) (upd m_far (x4).toNatClampNeg (-1 : Int32)) h
      · refine g_iconst F (v := (0 : Int32)) dX9_rings_24 (by decide) ?_
        refine g_goto F 29 dX9_rings_25 (by decide) ?_
        refine g_iastore F h (sg' := [(sMod cy am Mm), (sI cy (am 22) 12 m_ring), (sI cy (am 30) 12 (upd m_far (x4).toNatClampNeg (0 : Int32))), (sI cy h1 24 A1)]) 2 0 dX9_rings_29 rfl rfl (fun h => ?_)
        refine g_iinc F (v := (x4 + 1)) (lv' := [(4, .int (x4 + 1)), (0, .ref (am 0)), (1, .ref h1), (2, .int x2), (3, .int x3)]) dX9_rings_30 4 rfl rfl (by decide) rfl ?_
        refine g_goto F 3 dX9_rings_33 (by decide) ?_
        refine Go.sub (lv' := [(0, .ref (am 0)), (1, .ref h1), (2, .int x2), (3, .int x3), (4, .int (x4 + 1))]) [1, 2, 3, 4, 0] rfl ?_
        exact ih (x4 + 1) (upd m_far (x4).toNatClampNeg (0 : Int32)) h
set_option maxHeartbeats 4000000 in
set_option maxRecDepth 100000 in
theorem k_X9_rings_63_ok {G : GX} {cy : Nat → ClassId} (am : Nat → Nat) (h1 : Nat)  (x2 : Int32) (x4 : Int32) (x5 : Int32) (Mm : ModS) (m_ring : (Nat → Int32)) (A1 : (Nat → Int32)) {out : ModS × (Nat → Int32) × (Nat → Int32)} (F : Fx G cX9_rings wsX9_rings RX9 cy 7 (rm_X9_rings)) (Rq : Rx G "rings" none none (fun z => z = [(sMod cy am out.1), (sI cy (am 22) 12 out.2.1), (sI cy (am 30) 12 out.2.2), (sI cy h1 24 A1)]) 0 0) (ke : (Nat → Int32) → Option (ModS × (Nat → Int32) × (Nat → Int32))) (hke : ∀  (m_far : (Nat → Int32)), ke m_far = some out → Go G 0 0 135 [(0, .ref (am 0)), (1, .ref h1), (2, .int x2), (4, .int x4), (5, .int x5)] [] [(sMod cy am Mm), (sI cy (am 22) 12 m_ring), (sI cy (am 30) 12 m_far), (sI cy h1 24 A1)]) : ∀ (n : Nat) (x6 : Int32) (m_far : (Nat → Int32)), k_X9_rings_63 x2 x4 x5 Mm m_ring A1 ke n x6 m_far = some out → Go G 0 0 63 [(0, .ref (am 0)), (1, .ref h1), (2, .int x2), (4, .int x4), (5, .int x5), (6, .int x6)] [] [(sMod cy am Mm), (sI cy (am 22) 12 m_ring), (sI cy (am 30) 12 m_far), (sI cy h1 24 A1)] := by
  intro n
  induction n with
  | zero =>
    intro x6 m_far h
    exact nosome h
  | succ n ih =>
    intro x6 m_far h
    rw [k_X9_rings_63.eq_2] at h
    refine g_iload F dX9_rings_63 5 rfl ?_
    refine g_aload_n F dX9_rings_65 rfl 0 rfl ?_
    refine g_get F (C := RX9) (T := TX9) (N := 36) (ci := 9) (v := .int (Mm 8)) hi_X9_rings_X9 0 0 8 dX9_rings_66 rfl rfl (by decide) fl_X9_rings_145 rfl ?_
    refine g_icmp_ge F 135 h dX9_rings_69 (by decide) (fun h => ?_) (fun h => ?_)
    · refine Go.sub (lv' := [(0, .ref (am 0)), (1, .ref h1), (2, .int x2), (4, .int x4), (5, .int x5)]) [0, 1, 2, 3, 4] rfl ?_
      exact hke m_far h
    · refine g_aload_n F dX9_rings_72 rfl 0 rfl ?_
      refine g_get F (C := RX9) (T := TX9) (N := 36) (ci := 9) (v := .ref (am 30)) hi_X9_rings_X9 0 0 29 dX9_rings_73 rfl rfl (by decide) fl_X9_rings_50 rfl ?_
      refine g_iload F dX9_rings_76 4 rfl ?_
      refine g_iaload F h 2 0 dX9_rings_78 rfl (fun h => ?_)
      refine g_if_ge F 135 h dX9_rings_79 (by decide) (fun h => ?_) (fun h => ?_)
      · refine Go.sub (lv' := [(0, .ref (am 0)), (1, .ref h1), (2, .int x2), (4, .int x4), (5, .int x5)]) [0, 1, 2, 3, 4] rfl ?_
        exact hke m_far h
      · refine g_aload_n F dX9_rings_82 rfl 0 rfl ?_
        refine g_get F (C := RX9) (T := TX9) (N := 36) (ci := 9) (v := .ref (am 30)) hi_X9_rings_X9 0 0 29 dX9_rings_83 rfl rfl (by decide) fl_X9_rings_50 rfl ?_
        refine g_iload F dX9_rings_86 4 rfl ?_
        refine g_aload_n F dX9_rings_88 rfl 1 rfl ?_
        refine g_iconst F (v := (0 : Int32)) dX9_rings_89 (by decide) ?_
        refine g_iload F dX9_rings_90 4 rfl ?_
        refine g_iadd F dX9_rings_92 ?_
        refine g_iaload F h 3 0 dX9_rings_93 rfl (fun h => ?_)
        refine g_iload F dX9_rings_94 5 rfl ?_
        obtain ⟨r2, hr2, h⟩ := bnd h
        refine g_cS F [.int (A1 (((0 : Int32) + x5)).toNatClampNeg), .int x6] (ok_X9_has (gl G) (gD G) cy (A1 (((0 : Int32) + x5)).toNatClampNeg) x6 r2 hr2) dX9_rings_96 gX9_rings_X9_has rfl cd_X9_has (by decide) rfl (Nat.le_of_ble_eq_true rfl) [] (by decide) rfl rfl (sg' := [(sMod cy am Mm), (sI cy (am 22) 12 m_ring), (sI cy (am 30) 12 m_far), (sI cy h1 24 A1)]) (st' := [.int r2, .int x5, .ref (am 30)]) rfl rfl ?_
        refine g_if_eq F 121 h dX9_rings_99 (by decide) (fun h => ?_) (fun h => ?_)
        · refine g_aload_n F dX9_rings_121 rfl 0 rfl ?_
          refine g_get F (C := RX9) (T := TX9) (N := 36) (ci := 9) (v := .ref (am 30)) hi_X9_rings_X9 0 0 29 dX9_rings_122 rfl rfl (by decide) fl_X9_rings_50 rfl ?_
          refine g_iload F dX9_rings_125 4 rfl ?_
          refine g_iaload F h 2 0 dX9_rings_127 rfl (fun h => ?_)
          refine g_iastore F h (sg' := [(sMod cy am Mm), (sI cy (am 22) 12 m_ring), (sI cy (am 30) 12 (upd m_far (x5).toNatClampNeg (m_far (x5).toNatClampNeg))), (sI cy h1 24 A1)]) 2 0 dX9_rings_128 rfl rfl (fun h => ?_)
          refine g_iinc F (v := (x6 + 1)) (lv' := [(6, .int (x6 + 1)), (0, .ref (am 0)), (1, .ref h1), (2, .int x2), (4, .int x4), (5, .int x5)]) dX9_rings_129 5 rfl rfl (by decide) rfl ?_
          refine g_goto F 63 dX9_rings_132 (by decide) ?_
          refine Go.sub (lv' := [(0, .ref (am 0)), (1, .ref h1), (2, .int x2), (4, .int x4), (5, .int x5), (6, .int (x6 + 1))]) [1, 2, 3, 4, 5, 0] rfl ?_
          exact ih (x6 + 1) (upd m_far (x5).toNatClampNeg (m_far (x5).toNatClampNeg)) h
        · refine g_aload_n F dX9_rings_102 rfl 0 rfl ?_
          refine g_get F (C := RX9) (T := TX9) (N := 36) (ci := 9) (v := .ref (am 30)) hi_X9_rings_X9 0 0 29 dX9_rings_103 rfl rfl (by decide) fl_X9_rings_50 rfl ?_
          refine g_iload F dX9_rings_106 5 rfl ?_
          refine g_iaload F h 2 0 dX9_rings_108 rfl (fun h => ?_)
          refine g_iload F dX9_rings_109 3 rfl ?_
          refine g_iconst F (v := (1 : Int32)) dX9_rings_111 (by decide) ?_
          refine g_isub F dX9_rings_112 ?_
          refine g_icmp_ne F 121 h dX9_rings_113 (by decide) (fun h => ?_) (fun h => ?_)
          · refine g_aload_n F dX9_rings_121 rfl 0 rfl ?_
            refine g_get F (C := RX9) (T := TX9) (N := 36) (ci := 9) (v := .ref (am 30)) hi_X9_rings_X9 0 0 29 dX9_rings_122 rfl rfl (by decide) fl_X9_rings_50 rfl ?_
            refine g_iload F dX9_rings_125 4 rfl ?_
            refine g_iaload F h 2 0 dX9_rings_127 rfl (fun h => ?_)
            refine g_iastore F h (sg' := [(sMod cy am Mm), (sI cy (am 22) 12 m_ring), (sI cy (am 30) 12 (upd m_far (x5).toNatClampNeg (m_far (x5).toNatClampNeg))), (sI cy h1 24 A1)]) 2 0 dX9_rings_128 rfl rfl (fun h => ?_)
            refine g_iinc F (v := (x6 + 1)) (lv' := [(6, .int (x6 + 1)), (0, .ref (am 0)), (1, .ref h1), (2, .int x2), (4, .int x4), (5, .int x5)]) dX9_rings_129 5 rfl rfl (by decide) rfl ?_
            refine g_goto F 63 dX9_rings_132 (by decide) ?_
            refine Go.sub (lv' := [(0, .ref (am 0)), (1, .ref h1), (2, .int x2), (4, .int x4), (5, .int x5), (6, .int (x6 + 1))]) [1, 2, 3, 4, 5, 0] rfl ?_
            exact ih (x6 + 1) (upd m_far (x5).toNatClampNeg (m_far (x5).toNatClampNeg)) h
          · refine g_iload F dX9_rings_116 3 rfl ?_
            refine g_goto F 128 dX9_rings_118 (by decide) ?_
            refine g_iastore F h (sg' := [(sMod cy am Mm), (sI cy (am 22) 12 m_ring), (sI cy (am 30) 12 (upd m_far (x5).toNatClampNeg x4)), (sI cy h1 24 A1)]) 2 0 dX9_rings_128 rfl rfl (fun h => ?_)
            refine g_iinc F (v := (x6 + 1)) (lv' := [(6, .int (x6 + 1)), (0, .ref (am 0)), (1, .ref h1), (2, .int x2), (4, .int x4), (5, .int x5)]) dX9_rings_129 5 rfl rfl (by decide) rfl ?_
            refine g_goto F 63 dX9_rings_132 (by decide) ?_
            refine Go.sub (lv' := [(0, .ref (am 0)), (1, .ref h1), (2, .int x2), (4, .int x4), (5, .int x5), (6, .int (x6 + 1))]) [1, 2, 3, 4, 5, 0] rfl ?_
            exact ih (x6 + 1) (upd m_far (x5).toNatClampNeg x4) h
set_option maxHeartbeats 4000000 in
set_option maxRecDepth 100000 in
theorem k_X9_rings_51_ok {G : GX} {cy : Nat → ClassId} (am : Nat → Nat) (h1 : Nat)  (x2 : Int32) (x4 : Int32) (Mm : ModS) (m_ring : (Nat → Int32)) (A1 : (Nat → Int32)) {out : ModS × (Nat → Int32) × (Nat → Int32)} (F : Fx G cX9_rings wsX9_rings RX9 cy 7 (rm_X9_rings)) (Rq : Rx G "rings" none none (fun z => z = [(sMod cy am out.1), (sI cy (am 22) 12 out.2.1), (sI cy (am 30) 12 out.2.2), (sI cy h1 24 A1)]) 0 0) (ke : (Nat → Int32) → Option (ModS × (Nat → Int32) × (Nat → Int32))) (hke : ∀  (m_far : (Nat → Int32)), ke m_far = some out → Go G 0 0 141 [(0, .ref (am 0)), (1, .ref h1), (2, .int x2), (4, .int x4)] [] [(sMod cy am Mm), (sI cy (am 22) 12 m_ring), (sI cy (am 30) 12 m_far), (sI cy h1 24 A1)]) : ∀ (n : Nat) (x5 : Int32) (m_far : (Nat → Int32)), k_X9_rings_51 x2 x4 Mm m_ring A1 ke n x5 m_far = some out → Go G 0 0 51 [(0, .ref (am 0)), (1, .ref h1), (2, .int x2), (4, .int x4), (5, .int x5)] [] [(sMod cy am Mm), (sI cy (am 22) 12 m_ring), (sI cy (am 30) 12 m_far), (sI cy h1 24 A1)] := by
  intro n
  induction n with
  | zero =>
    intro x5 m_far h
    exact nosome h
  | succ n ih =>
    intro x5 m_far h
    rw [k_X9_rings_51.eq_2] at h
    refine g_iload F dX9_rings_51 4 rfl ?_
    refine g_aload_n F dX9_rings_53 rfl 0 rfl ?_
    refine g_get F (C := RX9) (T := TX9) (N := 36) (ci := 9) (v := .int (Mm 8)) hi_X9_rings_X9 0 0 8 dX9_rings_54 rfl rfl (by decide) fl_X9_rings_145 rfl ?_
    refine g_icmp_ge F 141 h dX9_rings_57 (by decide) (fun h => ?_) (fun h => ?_)
    · refine Go.sub (lv' := [(0, .ref (am 0)), (1, .ref h1), (2, .int x2), (4, .int x4)]) [0, 1, 2, 3] rfl ?_
      exact hke m_far h
    · refine g_iconst F (v := (0 : Int32)) dX9_rings_60 (by decide) ?_
      refine g_istore F (lv' := [(6, .int (0 : Int32)), (0, .ref (am 0)), (1, .ref h1), (2, .int x2), (4, .int x4), (5, .int x5)]) dX9_rings_61 (by decide) rfl ?_
      refine Go.sub (lv' := [(0, .ref (am 0)), (1, .ref h1), (2, .int x2), (4, .int x4), (5, .int x5), (6, .int (0 : Int32))]) [1, 2, 3, 4, 5, 0] rfl ?_
      refine k_X9_rings_63_ok am h1 x2 x4 x5 Mm m_ring A1 F Rq _ (fun m_far_3 h => ?_) _ (0 : Int32) m_far h
      refine g_iinc F (v := (x5 + 1)) (lv' := [(5, .int (x5 + 1)), (0, .ref (am 0)), (1, .ref h1), (2, .int x2), (4, .int x4)]) dX9_rings_135 4 rfl rfl (by decide) rfl ?_
      refine g_goto F 51 dX9_rings_138 (by decide) ?_
      refine Go.sub (lv' := [(0, .ref (am 0)), (1, .ref h1), (2, .int x2), (4, .int x4), (5, .int (x5 + 1))]) [1, 2, 3, 4, 0] rfl ?_
      exact ih (x5 + 1) m_far_3 h
set_option maxHeartbeats 4000000 in
set_option maxRecDepth 100000 in
theorem k_X9_rings_39_ok {G : GX} {cy : Nat → ClassId} (am : Nat → Nat) (h1 : Nat)  (x2 : Int32) (Mm : ModS) (m_ring : (Nat → Int32)) (A1 : (Nat → Int32)) {out : ModS × (Nat → Int32) × (Nat → Int32)} (F : Fx G cX9_rings wsX9_rings RX9 cy 7 (rm_X9_rings)) (Rq : Rx G "rings" none none (fun z => z = [(sMod cy am out.1), (sI cy (am 22) 12 out.2.1), (sI cy (am 30) 12 out.2.2), (sI cy h1 24 A1)]) 0 0) (ke : (Nat → Int32) → Option (ModS × (Nat → Int32) × (Nat → Int32))) (hke : ∀  (m_far : (Nat → Int32)), ke m_far = some out → Go G 0 0 147 [(0, .ref (am 0)), (1, .ref h1), (2, .int x2)] [] [(sMod cy am Mm), (sI cy (am 22) 12 m_ring), (sI cy (am 30) 12 m_far), (sI cy h1 24 A1)]) : ∀ (n : Nat) (x4 : Int32) (m_far : (Nat → Int32)), k_X9_rings_39 x2 Mm m_ring A1 ke n x4 m_far = some out → Go G 0 0 39 [(0, .ref (am 0)), (1, .ref h1), (2, .int x2), (4, .int x4)] [] [(sMod cy am Mm), (sI cy (am 22) 12 m_ring), (sI cy (am 30) 12 m_far), (sI cy h1 24 A1)] := by
  intro n
  induction n with
  | zero =>
    intro x4 m_far h
    exact nosome h
  | succ n ih =>
    intro x4 m_far h
    rw [k_X9_rings_39.eq_2] at h
    refine g_iload F dX9_rings_39 3 rfl ?_
    refine g_aload_n F dX9_rings_41 rfl 0 rfl ?_
    refine g_get F (C := RX9) (T := TX9) (N := 36) (ci := 9) (v := .int (Mm 8)) hi_X9_rings_X9 0 0 8 dX9_rings_42 rfl rfl (by decide) fl_X9_rings_145 rfl ?_
    refine g_icmp_ge F 147 h dX9_rings_45 (by decide) (fun h => ?_) (fun h => ?_)
    · refine Go.sub (lv' := [(0, .ref (am 0)), (1, .ref h1), (2, .int x2)]) [0, 1, 2] rfl ?_
      exact hke m_far h
    · refine g_iconst F (v := (0 : Int32)) dX9_rings_48 (by decide) ?_
      refine g_istore F (lv' := [(5, .int (0 : Int32)), (0, .ref (am 0)), (1, .ref h1), (2, .int x2), (4, .int x4)]) dX9_rings_49 (by decide) rfl ?_
      refine Go.sub (lv' := [(0, .ref (am 0)), (1, .ref h1), (2, .int x2), (4, .int x4), (5, .int (0 : Int32))]) [1, 2, 3, 4, 0] rfl ?_
      refine k_X9_rings_51_ok am h1 x2 x4 Mm m_ring A1 F Rq _ (fun m_far_4 h => ?_) _ (0 : Int32) m_far h
      refine g_iinc F (v := (x4 + 1)) (lv' := [(4, .int (x4 + 1)), (0, .ref (am 0)), (1, .ref h1), (2, .int x2)]) dX9_rings_141 3 rfl rfl (by decide) rfl ?_
      refine g_goto F 39 dX9_rings_144 (by decide) ?_
      refine Go.sub (lv' := [(0, .ref (am 0)), (1, .ref h1), (2, .int x2), (4, .int (x4 + 1))]) [1, 2, 3, 0] rfl ?_
      exact ih (x4 + 1) m_far_4 h
set_option maxHeartbeats 4000000 in
set_option maxRecDepth 100000 in
theorem k_X9_rings_186_ok {G : GX} {cy : Nat → ClassId} (am : Nat → Nat) (h1 : Nat)  (x4 : Int32) (x5 : Int32) (Mm : ModS) (m_ring : (Nat → Int32)) (m_far : (Nat → Int32)) (A1 : (Nat → Int32)) {out : ModS × (Nat → Int32) × (Nat → Int32)} (F : Fx G cX9_rings wsX9_rings RX9 cy 7 (rm_X9_rings)) (Rq : Rx G "rings" none none (fun z => z = [(sMod cy am out.1), (sI cy (am 22) 12 out.2.1), (sI cy (am 30) 12 out.2.2), (sI cy h1 24 A1)]) 0 0) (ke : Int32 → Option (ModS × (Nat → Int32) × (Nat → Int32))) (hke : ∀ (x6 : Int32) , ke x6 = some out → Go G 0 0 236 [(0, .ref (am 0)), (1, .ref h1), (5, .int x5), (6, .int x6)] [] [(sMod cy am Mm), (sI cy (am 22) 12 m_ring), (sI cy (am 30) 12 m_far), (sI cy h1 24 A1)]) : ∀ (n : Nat) (x6 : Int32) , k_X9_rings_186 x4 x5 Mm m_ring m_far A1 ke n x6 = some out → Go G 0 0 186 [(0, .ref (am 0)), (1, .ref h1), (4, .int x4), (5, .int x5), (6, .int x6)] [] [(sMod cy am Mm), (sI cy (am 22) 12 m_ring), (sI cy (am 30) 12 m_far), (sI cy h1 24 A1)] := by
  intro n
  induction n with
  | zero =>
    intro x6 h
    exact nosome h
  | succ n ih =>
    intro x6 h
    rw [k_X9_rings_186.eq_2] at h
    refine g_iload F dX9_rings_186 3 rfl ?_
    refine g_iconst F (v := (1 : Int32)) dX9_rings_188 (by decide) ?_
    refine g_iadd F dX9_rings_189 ?_
    refine g_aload_n F dX9_rings_190 rfl 0 rfl ?_
    refine g_get F (C := RX9) (T := TX9) (N := 36) (ci := 9) (v := .int (Mm 22)) hi_X9_rings_X9 0 0 22 dX9_rings_191 rfl rfl (by decide) fl_X9_rings_182 rfl ?_
    refine g_icmp_ge F 236 h dX9_rings_194 (by decide) (fun h => ?_) (fun h => ?_)
    · refine Go.sub (lv' := [(0, .ref (am 0)), (1, .ref h1), (5, .int x5), (6, .int x6)]) [0, 1, 3, 4] rfl ?_
      exact hke x6 h
    · refine g_aload_n F dX9_rings_197 rfl 1 rfl ?_
      refine g_iconst F (v := (0 : Int32)) dX9_rings_198 (by decide) ?_
      refine g_iload F dX9_rings_199 2 rfl ?_
      refine g_iadd F dX9_rings_201 ?_
      refine g_iaload F h 3 0 dX9_rings_202 rfl (fun h => ?_)
      refine g_iload F dX9_rings_203 4 rfl ?_
      obtain ⟨r6, hr6, h⟩ := bnd h
      refine g_cS F [.int (A1 (((0 : Int32) + x4)).toNatClampNeg), .int x6] (ok_X9_has (gl G) (gD G) cy (A1 (((0 : Int32) + x4)).toNatClampNeg) x6 r6 hr6) dX9_rings_205 gX9_rings_X9_has rfl cd_X9_has (by decide) rfl (Nat.le_of_ble_eq_true rfl) [] (by decide) rfl rfl (sg' := [(sMod cy am Mm), (sI cy (am 22) 12 m_ring), (sI cy (am 30) 12 m_far), (sI cy h1 24 A1)]) (st' := [.int r6]) rfl rfl ?_
      refine g_if_eq F 230 h dX9_rings_208 (by decide) (fun h => ?_) (fun h => ?_)
      · refine g_iinc F (v := (x6 + 1)) (lv' := [(6, .int (x6 + 1)), (0, .ref (am 0)), (1, .ref h1), (4, .int x4), (5, .int x5)]) dX9_rings_230 4 rfl rfl (by decide) rfl ?_
        refine g_goto F 186 dX9_rings_233 (by decide) ?_
        refine Go.sub (lv' := [(0, .ref (am 0)), (1, .ref h1), (4, .int x4), (5, .int x5), (6, .int (x6 + 1))]) [1, 2, 3, 4, 0] rfl ?_
        exact ih (x6 + 1) h
      · refine g_aload_n F dX9_rings_211 rfl 0 rfl ?_
        refine g_get F (C := RX9) (T := TX9) (N := 36) (ci := 9) (v := .ref (am 30)) hi_X9_rings_X9 0 0 29 dX9_rings_212 rfl rfl (by decide) fl_X9_rings_50 rfl ?_
        refine g_iload F dX9_rings_215 4 rfl ?_
        refine g_iaload F h 2 0 dX9_rings_217 rfl (fun h => ?_)
        refine g_aload_n F dX9_rings_218 rfl 0 rfl ?_
        refine g_get F (C := RX9) (T := TX9) (N := 36) (ci := 9) (v := .ref (am 30)) hi_X9_rings_X9 0 0 29 dX9_rings_219 rfl rfl (by decide) fl_X9_rings_50 rfl ?_
        refine g_iload F dX9_rings_222 2 rfl ?_
        refine g_iaload F h 2 0 dX9_rings_224 rfl (fun h => ?_)
        refine g_iconst F (v := (1 : Int32)) dX9_rings_225 (by decide) ?_
        refine g_isub F dX9_rings_226 ?_
        refine g_icmp_eq F 236 h dX9_rings_227 (by decide) (fun h => ?_) (fun h => ?_)
        · refine Go.sub (lv' := [(0, .ref (am 0)), (1, .ref h1), (5, .int x5), (6, .int x6)]) [0, 1, 3, 4] rfl ?_
          exact hke x6 h
        · refine g_iinc F (v := (x6 + 1)) (lv' := [(6, .int (x6 + 1)), (0, .ref (am 0)), (1, .ref h1), (4, .int x4), (5, .int x5)]) dX9_rings_230 4 rfl rfl (by decide) rfl ?_
          refine g_goto F 186 dX9_rings_233 (by decide) ?_
          refine Go.sub (lv' := [(0, .ref (am 0)), (1, .ref h1), (4, .int x4), (5, .int x5), (6, .int (x6 + 1))]) [1, 2, 3, 4, 0] rfl ?_
          exact ih (x6 + 1) h
set_option maxHeartbeats 4000000 in
set_option maxRecDepth 100000 in
theorem k_X9_rings_165_ok {G : GX} {cy : Nat → ClassId} (am : Nat → Nat) (h1 : Nat)   (Mm : ModS) (m_far : (Nat → Int32)) (A1 : (Nat → Int32)) {out : ModS × (Nat → Int32) × (Nat → Int32)} (F : Fx G cX9_rings wsX9_rings RX9 cy 7 (rm_X9_rings)) (Rq : Rx G "rings" none none (fun z => z = [(sMod cy am out.1), (sI cy (am 22) 12 out.2.1), (sI cy (am 30) 12 out.2.2), (sI cy h1 24 A1)]) 0 0) (ke : (Nat → Int32) → Option (ModS × (Nat → Int32) × (Nat → Int32))) (hke : ∀  (m_ring : (Nat → Int32)), ke m_ring = some out → Go G 0 0 246 [] [] [(sMod cy am Mm), (sI cy (am 22) 12 m_ring), (sI cy (am 30) 12 m_far), (sI cy h1 24 A1)]) : ∀ (n : Nat) (x4 : Int32) (x5 : Int32) (m_ring : (Nat → Int32)), k_X9_rings_165 Mm m_far A1 ke n x4 x5 m_ring = some out → Go G 0 0 165 [(0, .ref (am 0)), (1, .ref h1), (4, .int x4), (5, .int x5)] [] [(sMod cy am Mm), (sI cy (am 22) 12 m_ring), (sI cy (am 30) 12 m_far), (sI cy h1 24 A1)] := by
  intro n
  induction n with
  | zero =>
    intro x4 x5 m_ring h
    exact nosome h
  | succ n ih =>
    intro x4 x5 m_ring h
    rw [k_X9_rings_165.eq_2] at h
    refine g_iload F dX9_rings_165 3 rfl ?_
    refine g_aload_n F dX9_rings_167 rfl 0 rfl ?_
    refine g_get F (C := RX9) (T := TX9) (N := 36) (ci := 9) (v := .int (Mm 22)) hi_X9_rings_X9 0 0 22 dX9_rings_168 rfl rfl (by decide) fl_X9_rings_182 rfl ?_
    refine g_icmp_ge F 246 h dX9_rings_171 (by decide) (fun h => ?_) (fun h => ?_)
    · refine Go.sub (lv' := []) [] rfl ?_
      exact hke m_ring h
    · refine g_aload_n F dX9_rings_174 rfl 0 rfl ?_
      refine g_get F (C := RX9) (T := TX9) (N := 36) (ci := 9) (v := .ref (am 22)) hi_X9_rings_X9 0 0 21 dX9_rings_175 rfl rfl (by decide) fl_X9_rings_41 rfl ?_
      refine g_iload F dX9_rings_178 3 rfl ?_
      refine g_iload F dX9_rings_180 2 rfl ?_
      refine g_iastore F h (sg' := [(sMod cy am Mm), (sI cy (am 22) 12 (upd m_ring (x5).toNatClampNeg x4)), (sI cy (am 30) 12 m_far), (sI cy h1 24 A1)]) 1 0 dX9_rings_182 rfl rfl (fun h => ?_)
      refine g_iconst F (v := (0 : Int32)) dX9_rings_183 (by decide) ?_
      refine g_istore F (lv' := [(6, .int (0 : Int32)), (0, .ref (am 0)), (1, .ref h1), (4, .int x4), (5, .int x5)]) dX9_rings_184 (by decide) rfl ?_
      refine Go.sub (lv' := [(0, .ref (am 0)), (1, .ref h1), (4, .int x4), (5, .int x5), (6, .int (0 : Int32))]) [1, 2, 3, 4, 0] rfl ?_
      refine k_X9_rings_186_ok am h1 x4 x5 Mm (upd m_ring (x5).toNatClampNeg x4) m_far A1 F Rq _ (fun x6_7 h => ?_) _ (0 : Int32) h
      refine g_iload F dX9_rings_236 3 rfl ?_
      refine g_istore F (lv' := [(4, .int x6_7), (0, .ref (am 0)), (1, .ref h1), (5, .int x5), (6, .int x6_7)]) dX9_rings_238 (by decide) rfl ?_
      refine g_iinc F (v := (x5 + 1)) (lv' := [(5, .int (x5 + 1)), (4, .int x6_7), (0, .ref (am 0)), (1, .ref h1), (6, .int x6_7)]) dX9_rings_240 3 rfl rfl (by decide) rfl ?_
      refine g_goto F 165 dX9_rings_243 (by decide) ?_
      refine Go.sub (lv' := [(0, .ref (am 0)), (1, .ref h1), (4, .int x6_7), (5, .int (x5 + 1))]) [2, 3, 1, 0] rfl ?_
      exact ih x6_7 (x5 + 1) (upd m_ring (x5).toNatClampNeg x4) h
set_option maxHeartbeats 4000000 in
set_option maxRecDepth 100000 in
theorem ok_X9_rings (l : Launch) (D : va_G) (cy : Nat → ClassId) (am : Nat → Nat) (h1 : Nat)  (Mm : ModS) (m_ring : (Nat → Int32)) (m_far : (Nat → Int32)) (A1 : (Nat → Int32)) (x2 : Int32) (x3 : Int32) (out : ModS × (Nat → Int32) × (Nat → Int32)) (h : f_X9_rings Mm m_ring m_far A1 x2 x3 = some out) : OK l D cy yX9_rings wsX9_rings rm_X9_rings [.ref (am 0), .ref h1, .int x2, .int x3] [(sMod cy am Mm), (sI cy (am 22) 12 m_ring), (sI cy (am 30) 12 m_far), (sI cy h1 24 A1)] none [(sMod cy am out.1), (sI cy (am 22) 12 out.2.1), (sI cy (am 30) 12 out.2.2), (sI cy h1 24 A1)] := by
  refine OKx.of (cc := cX9_rings) (maxL := 7) (ret := none) (by decide) rfl (Nat.le_of_ble_eq_true rfl) (fun G F Rq => ?_)
  show Go G 0 0 0 [(0, .ref (am 0)), (1, .ref h1), (2, .int x2), (3, .int x3)] [] [(sMod cy am Mm), (sI cy (am 22) 12 m_ring), (sI cy (am 30) 12 m_far), (sI cy h1 24 A1)]
  replace F : Fx G cX9_rings wsX9_rings RX9 cy 7 (rm_X9_rings) := F
  replace Rq : Rx G "rings" none none (fun z => z = [(sMod cy am out.1), (sI cy (am 22) 12 out.2.1), (sI cy (am 30) 12 out.2.2), (sI cy h1 24 A1)]) 0 0 := Rq
  unfold f_X9_rings at h
  refine g_iconst F (v := (0 : Int32)) dX9_rings_0 (by decide) ?_
  refine g_istore F (lv' := [(4, .int (0 : Int32)), (0, .ref (am 0)), (1, .ref h1), (2, .int x2), (3, .int x3)]) dX9_rings_1 (by decide) rfl ?_
  refine Go.sub (lv' := [(0, .ref (am 0)), (1, .ref h1), (2, .int x2), (3, .int x3), (4, .int (0 : Int32))]) [1, 2, 3, 4, 0] rfl ?_
  refine k_X9_rings_3_ok am h1 x2 x3 Mm m_ring A1 F Rq _ (fun m_far_1 h => ?_) _ (0 : Int32) m_far h
  refine g_iconst F (v := (1 : Int32)) dX9_rings_36 (by decide) ?_
  refine g_istore F (lv' := [(4, .int (1 : Int32)), (0, .ref (am 0)), (1, .ref h1), (2, .int x2)]) dX9_rings_37 (by decide) rfl ?_
  refine Go.sub (lv' := [(0, .ref (am 0)), (1, .ref h1), (2, .int x2), (4, .int (1 : Int32))]) [1, 2, 3, 0] rfl ?_
  refine k_X9_rings_39_ok am h1 x2 Mm m_ring A1 F Rq _ (fun m_far_5 h => ?_) _ (1 : Int32) m_far_1 h
  refine g_aload_n F dX9_rings_147 rfl 0 rfl ?_
  refine g_aload_n F dX9_rings_148 rfl 0 rfl ?_
  refine g_get F (C := RX9) (T := TX9) (N := 36) (ci := 9) (v := .ref (am 30)) hi_X9_rings_X9 0 0 29 dX9_rings_149 rfl rfl (by decide) fl_X9_rings_50 rfl ?_
  refine g_iload_n F dX9_rings_152 rfl 2 rfl ?_
  refine g_iaload F h 2 0 dX9_rings_153 rfl (fun h => ?_)
  refine g_iconst F (v := (1 : Int32)) dX9_rings_154 (by decide) ?_
  refine g_iadd F dX9_rings_155 ?_
  refine g_put F (C := RX9) (T := TX9) (N := 36) (ci := 9) (v := .int ((m_far_5 (x2).toNatClampNeg) + (1 : Int32))) (ty := .int) (sg' := [(sMod cy am (upd Mm 22 ((m_far_5 (x2).toNatClampNeg) + (1 : Int32)))), (sI cy (am 22) 12 m_ring), (sI cy (am 30) 12 m_far_5), (sI cy h1 24 A1)]) hi_X9_rings_X9 tyX9 tyX9_ok nmX9 0 0 22 dX9_rings_156 rfl rfl (by decide) fl_X9_rings_182 rfl rfl rfl rfl (Nat.le_of_ble_eq_true rfl) rfl ?_
  refine g_iload_n F dX9_rings_159 rfl 2 rfl ?_
  refine g_istore F (lv' := [(4, .int x2), (0, .ref (am 0)), (1, .ref h1), (2, .int x2)]) dX9_rings_160 (by decide) rfl ?_
  refine g_iconst F (v := (0 : Int32)) dX9_rings_162 (by decide) ?_
  refine g_istore F (lv' := [(5, .int (0 : Int32)), (4, .int x2), (0, .ref (am 0)), (1, .ref h1), (2, .int x2)]) dX9_rings_163 (by decide) rfl ?_
  refine Go.sub (lv' := [(0, .ref (am 0)), (1, .ref h1), (4, .int x2), (5, .int (0 : Int32))]) [2, 3, 1, 0] rfl ?_
  refine k_X9_rings_165_ok am h1 (upd Mm 22 ((m_far_5 (x2).toNatClampNeg) + (1 : Int32))) m_far_5 A1 F Rq _ (fun m_ring_8 h => ?_) _ x2 (0 : Int32) m_ring h
  obtain rfl := Option.some.inj h
  exact g_vret F Rq rfl dX9_rings_246
theorem hi_X9_lap_X9 : ∀ w ∈ u_ws RX9 TX9 36, w ∈ wsX9_lap := by decide +kernel
theorem fl_X9_lap_75 : Cond.fieldLink RX9 75 "ArcOrderModel" "thrown" "I" ∈ wsX9_lap := by decide +kernel
theorem fl_X9_lap_182 : Cond.fieldLink RX9 182 "ArcOrderModel" "ringMany" "I" ∈ wsX9_lap := by decide +kernel
theorem fl_X9_lap_41 : Cond.fieldLink RX9 41 "ArcOrderModel" "ring" "[I" ∈ wsX9_lap := by decide +kernel
abbrev rm_X9_lap : Room := { frames := 0, cells := 0, slots := 0, locals := 0 }
set_option maxHeartbeats 4000000 in
set_option maxRecDepth 100000 in
theorem ok_X9_lap (l : Launch) (D : va_G) (cy : Nat → ClassId) (am : Nat → Nat)  (Mm : ModS) (m_ring : (Nat → Int32)) (x1 : Int32) (out : Int32 × ModS) (h : f_X9_lap Mm m_ring x1 = some out) : OK l D cy yX9_lap wsX9_lap rm_X9_lap [.ref (am 0), .int x1] [(sMod cy am Mm), (sI cy (am 22) 12 m_ring)] (some (.int out.1)) [(sMod cy am out.2), (sI cy (am 22) 12 m_ring)] := by
  refine OKx.of (cc := cX9_lap) (maxL := 2) (ret := (some .int)) (by decide) rfl (Nat.le_of_ble_eq_true rfl) (fun G F Rq => ?_)
  show Go G 0 0 0 [(0, .ref (am 0)), (1, .int x1)] [] [(sMod cy am Mm), (sI cy (am 22) 12 m_ring)]
  replace F : Fx G cX9_lap wsX9_lap RX9 cy 2 (rm_X9_lap) := F
  replace Rq : Rx G "lap" (some .int) (some (.int out.1)) (fun z => z = [(sMod cy am out.2), (sI cy (am 22) 12 m_ring)]) 0 0 := Rq
  unfold f_X9_lap at h
  refine g_aload_n F dX9_lap_0 rfl 0 rfl ?_
  refine g_iconst F (v := (0 : Int32)) dX9_lap_1 (by decide) ?_
  refine g_put F (C := RX9) (T := TX9) (N := 36) (ci := 9) (v := .int (0 : Int32)) (ty := .int) (sg' := [(sMod cy am (upd Mm 0 (0 : Int32))), (sI cy (am 22) 12 m_ring)]) hi_X9_lap_X9 tyX9 tyX9_ok nmX9 0 0 0 dX9_lap_2 rfl rfl (by decide) fl_X9_lap_75 rfl rfl rfl rfl (Nat.le_of_ble_eq_true rfl) rfl ?_
  refine g_iload_n F dX9_lap_5 rfl 1 rfl ?_
  refine g_iconst F (v := (-1 : Int32)) dX9_lap_6 (by decide) ?_
  refine g_icmp_ge F 12 h dX9_lap_7 (by decide) (fun h => ?_) (fun h => ?_)
  · refine g_iload_n F dX9_lap_12 rfl 1 rfl ?_
    refine g_if_ge F 23 h dX9_lap_13 (by decide) (fun h => ?_) (fun h => ?_)
    · refine g_iload_n F dX9_lap_23 rfl 1 rfl ?_
      refine g_aload_n F dX9_lap_24 rfl 0 rfl ?_
      refine g_get F (C := RX9) (T := TX9) (N := 36) (ci := 9) (v := .int (Mm 22)) hi_X9_lap_X9 0 0 22 dX9_lap_25 rfl rfl (by decide) fl_X9_lap_182 rfl ?_
      refine g_icmp_ge F 40 h dX9_lap_28 (by decide) (fun h => ?_) (fun h => ?_)
      · refine g_bipush F (v := (-9 : Int32)) dX9_lap_40 (by decide) ?_
        obtain rfl := Option.some.inj h
        exact g_iret F Rq rfl dX9_lap_42
      · refine g_aload_n F dX9_lap_31 rfl 0 rfl ?_
        refine g_get F (C := RX9) (T := TX9) (N := 36) (ci := 9) (v := .ref (am 22)) hi_X9_lap_X9 0 0 21 dX9_lap_32 rfl rfl (by decide) fl_X9_lap_41 rfl ?_
        refine g_iload_n F dX9_lap_35 rfl 1 rfl ?_
        refine g_iaload F h 1 0 dX9_lap_36 rfl (fun h => ?_)
        refine g_goto F 42 dX9_lap_37 (by decide) ?_
        obtain rfl := Option.some.inj h
        exact g_iret F Rq rfl dX9_lap_42
    · refine g_aload_n F dX9_lap_16 rfl 0 rfl ?_
      refine g_get F (C := RX9) (T := TX9) (N := 36) (ci := 9) (v := .int (Mm 22)) hi_X9_lap_X9 0 0 22 dX9_lap_17 rfl rfl (by decide) fl_X9_lap_182 rfl ?_
      refine g_goto F 42 dX9_lap_20 (by decide) ?_
      obtain rfl := Option.some.inj h
      exact g_iret F Rq rfl dX9_lap_42
  · refine g_iconst F (v := (-1 : Int32)) dX9_lap_10 (by decide) ?_
    obtain rfl := Option.some.inj h
    exact g_iret F Rq rfl dX9_lap_11
theorem hi_X9_behind_X9 : ∀ w ∈ u_ws RX9 TX9 36, w ∈ wsX9_behind := by decide +kernel
theorem fl_X9_behind_16 : Cond.fieldLink RX9 16 "ArcOrderModel" "s" "[I" ∈ wsX9_behind := by decide +kernel
theorem fl_X9_behind_145 : Cond.fieldLink RX9 145 "ArcOrderModel" "items" "I" ∈ wsX9_behind := by decide +kernel
abbrev rm_X9_behind : Room := { frames := 1, cells := 0, slots := 0, locals := 21 }
set_option maxHeartbeats 4000000 in
set_option maxRecDepth 100000 in
theorem k_X9_behind_22_ok {G : GX} {cy : Nat → ClassId} (am : Nat → Nat)  (x3 : Int32) (Mm : ModS) (m_s : (Nat → Int32)) {out : Int32} (F : Fx G cX9_behind wsX9_behind RX9 cy 5 (rm_X9_behind)) (Rq : Rx G "behind" (some .int) (some (.int out)) (fun z => z = [(sMod cy am Mm), (sI cy (am 12) 24 m_s)]) 0 0) (ke : Int32 → Option (Int32)) (hke : ∀ (x2 : Int32) , ke x2 = some out → Go G 0 0 62 [(0, .ref (am 0)), (2, .int x2), (3, .int x3)] [] [(sMod cy am Mm), (sI cy (am 12) 24 m_s)]) : ∀ (n : Nat) (x2 : Int32) (x4 : Int32) , k_X9_behind_22 x3 Mm m_s ke n x2 x4 = some out → Go G 0 0 22 [(0, .ref (am 0)), (2, .int x2), (3, .int x3), (4, .int x4)] [] [(sMod cy am Mm), (sI cy (am 12) 24 m_s)] := by
  intro n
  induction n with
  | zero =>
    intro x2 x4 h
    exact nosome h
  | succ n ih =>
    intro x2 x4 h
    rw [k_X9_behind_22.eq_2] at h
    refine g_iload F dX9_behind_22 3 rfl ?_
    refine g_aload_n F dX9_behind_24 rfl 0 rfl ?_
    refine g_get F (C := RX9) (T := TX9) (N := 36) (ci := 9) (v := .int (Mm 8)) hi_X9_behind_X9 0 0 8 dX9_behind_25 rfl rfl (by decide) fl_X9_behind_145 rfl ?_
    refine g_icmp_ge F 62 h dX9_behind_28 (by decide) (fun h => ?_) (fun h => ?_)
    · refine Go.sub (lv' := [(0, .ref (am 0)), (2, .int x2), (3, .int x3)]) [0, 1, 2] rfl ?_
      exact hke x2 h
    · refine g_iload_n F dX9_behind_31 rfl 1 rfl ?_
      refine g_iload_n F dX9_behind_32 rfl 1 rfl ?_
      refine g_iload F dX9_behind_33 3 rfl ?_
      obtain ⟨r1, hr1, h⟩ := bnd h
      refine g_cS F [.int x2, .int x4] (ok_X9_has (gl G) (gD G) cy x2 x4 r1 hr1) dX9_behind_35 gX9_behind_X9_has rfl cd_X9_has (by decide) rfl (Nat.le_of_ble_eq_true rfl) [] (by decide) rfl rfl (sg' := [(sMod cy am Mm), (sI cy (am 12) 24 m_s)]) (st' := [.int r1, .int x2]) rfl rfl ?_
      refine g_if_eq F 53 h dX9_behind_38 (by decide) (fun h => ?_) (fun h => ?_)
      · refine g_iconst F (v := (0 : Int32)) dX9_behind_53 (by decide) ?_
        refine g_ior F dX9_behind_54 ?_
        refine g_istore_n F (lv' := [(2, .int (x2 ||| (0 : Int32))), (0, .ref (am 0)), (3, .int x3), (4, .int x4)]) dX9_behind_55 rfl (by decide) rfl ?_
        refine g_iinc F (v := (x4 + 1)) (lv' := [(4, .int (x4 + 1)), (2, .int (x2 ||| (0 : Int32))), (0, .ref (am 0)), (3, .int x3)]) dX9_behind_56 3 rfl rfl (by decide) rfl ?_
        refine g_goto F 22 dX9_behind_59 (by decide) ?_
        refine Go.sub (lv' := [(0, .ref (am 0)), (2, .int (x2 ||| (0 : Int32))), (3, .int x3), (4, .int (x4 + 1))]) [2, 1, 3, 0] rfl ?_
        exact ih (x2 ||| (0 : Int32)) (x4 + 1) h
      · refine g_aload_n F dX9_behind_41 rfl 0 rfl ?_
        refine g_get F (C := RX9) (T := TX9) (N := 36) (ci := 9) (v := .ref (am 12)) hi_X9_behind_X9 0 0 11 dX9_behind_42 rfl rfl (by decide) fl_X9_behind_16 rfl ?_
        refine g_iconst F (v := (0 : Int32)) dX9_behind_45 (by decide) ?_
        refine g_iload F dX9_behind_46 3 rfl ?_
        refine g_iadd F dX9_behind_48 ?_
        refine g_iaload F h 1 0 dX9_behind_49 rfl (fun h => ?_)
        refine g_goto F 54 dX9_behind_50 (by decide) ?_
        refine g_ior F dX9_behind_54 ?_
        refine g_istore_n F (lv' := [(2, .int (x2 ||| (m_s (((0 : Int32) + x4)).toNatClampNeg))), (0, .ref (am 0)), (3, .int x3), (4, .int x4)]) dX9_behind_55 rfl (by decide) rfl ?_
        refine g_iinc F (v := (x4 + 1)) (lv' := [(4, .int (x4 + 1)), (2, .int (x2 ||| (m_s (((0 : Int32) + x4)).toNatClampNeg))), (0, .ref (am 0)), (3, .int x3)]) dX9_behind_56 3 rfl rfl (by decide) rfl ?_
        refine g_goto F 22 dX9_behind_59 (by decide) ?_
        refine Go.sub (lv' := [(0, .ref (am 0)), (2, .int (x2 ||| (m_s (((0 : Int32) + x4)).toNatClampNeg))), (3, .int x3), (4, .int (x4 + 1))]) [2, 1, 3, 0] rfl ?_
        exact ih (x2 ||| (m_s (((0 : Int32) + x4)).toNatClampNeg)) (x4 + 1) h
set_option maxHeartbeats 4000000 in
set_option maxRecDepth 100000 in
theorem k_X9_behind_11_ok {G : GX} {cy : Nat → ClassId} (am : Nat → Nat)   (Mm : ModS) (m_s : (Nat → Int32)) {out : Int32} (F : Fx G cX9_behind wsX9_behind RX9 cy 5 (rm_X9_behind)) (Rq : Rx G "behind" (some .int) (some (.int out)) (fun z => z = [(sMod cy am Mm), (sI cy (am 12) 24 m_s)]) 0 0) (ke : Int32 → Option (Int32)) (hke : ∀ (x2 : Int32) , ke x2 = some out → Go G 0 0 68 [(2, .int x2)] [] [(sMod cy am Mm), (sI cy (am 12) 24 m_s)]) : ∀ (n : Nat) (x2 : Int32) (x3 : Int32) , k_X9_behind_11 Mm m_s ke n x2 x3 = some out → Go G 0 0 11 [(0, .ref (am 0)), (2, .int x2), (3, .int x3)] [] [(sMod cy am Mm), (sI cy (am 12) 24 m_s)] := by
  intro n
  induction n with
  | zero =>
    intro x2 x3 h
    exact nosome h
  | succ n ih =>
    intro x2 x3 h
    rw [k_X9_behind_11.eq_2] at h
    refine g_iload_n F dX9_behind_11 rfl 2 rfl ?_
    refine g_aload_n F dX9_behind_12 rfl 0 rfl ?_
    refine g_get F (C := RX9) (T := TX9) (N := 36) (ci := 9) (v := .int (Mm 8)) hi_X9_behind_X9 0 0 8 dX9_behind_13 rfl rfl (by decide) fl_X9_behind_145 rfl ?_
    refine g_icmp_ge F 68 h dX9_behind_16 (by decide) (fun h => ?_) (fun h => ?_)
    · refine Go.sub (lv' := [(2, .int x2)]) [1] rfl ?_
      exact hke x2 h
    · refine g_iconst F (v := (0 : Int32)) dX9_behind_19 (by decide) ?_
      refine g_istore F (lv' := [(4, .int (0 : Int32)), (0, .ref (am 0)), (2, .int x2), (3, .int x3)]) dX9_behind_20 (by decide) rfl ?_
      refine Go.sub (lv' := [(0, .ref (am 0)), (2, .int x2), (3, .int x3), (4, .int (0 : Int32))]) [1, 2, 3, 0] rfl ?_
      refine k_X9_behind_22_ok am x3 Mm m_s F Rq _ (fun x2_2 h => ?_) _ x2 (0 : Int32) h
      refine g_iinc F (v := (x3 + 1)) (lv' := [(3, .int (x3 + 1)), (0, .ref (am 0)), (2, .int x2_2)]) dX9_behind_62 2 rfl rfl (by decide) rfl ?_
      refine g_goto F 11 dX9_behind_65 (by decide) ?_
      refine Go.sub (lv' := [(0, .ref (am 0)), (2, .int x2_2), (3, .int (x3 + 1))]) [1, 2, 0] rfl ?_
      exact ih x2_2 (x3 + 1) h
set_option maxHeartbeats 4000000 in
set_option maxRecDepth 100000 in
theorem ok_X9_behind (l : Launch) (D : va_G) (cy : Nat → ClassId) (am : Nat → Nat)  (Mm : ModS) (m_s : (Nat → Int32)) (x1 : Int32) (out : Int32) (h : f_X9_behind Mm m_s x1 = some out) : OK l D cy yX9_behind wsX9_behind rm_X9_behind [.ref (am 0), .int x1] [(sMod cy am Mm), (sI cy (am 12) 24 m_s)] (some (.int out)) [(sMod cy am Mm), (sI cy (am 12) 24 m_s)] := by
  refine OKx.of (cc := cX9_behind) (maxL := 5) (ret := (some .int)) (by decide) rfl (Nat.le_of_ble_eq_true rfl) (fun G F Rq => ?_)
  show Go G 0 0 0 [(0, .ref (am 0)), (1, .int x1)] [] [(sMod cy am Mm), (sI cy (am 12) 24 m_s)]
  replace F : Fx G cX9_behind wsX9_behind RX9 cy 5 (rm_X9_behind) := F
  replace Rq : Rx G "behind" (some .int) (some (.int out)) (fun z => z = [(sMod cy am Mm), (sI cy (am 12) 24 m_s)]) 0 0 := Rq
  unfold f_X9_behind at h
  refine g_aload_n F dX9_behind_0 rfl 0 rfl ?_
  refine g_get F (C := RX9) (T := TX9) (N := 36) (ci := 9) (v := .ref (am 12)) hi_X9_behind_X9 0 0 11 dX9_behind_1 rfl rfl (by decide) fl_X9_behind_16 rfl ?_
  refine g_iconst F (v := (0 : Int32)) dX9_behind_4 (by decide) ?_
  refine g_iload_n F dX9_behind_5 rfl 1 rfl ?_
  refine g_iadd F dX9_behind_6 ?_
  refine g_iaload F h 1 0 dX9_behind_7 rfl (fun h => ?_)
  refine g_istore_n F (lv' := [(2, .int (m_s (((0 : Int32) + x1)).toNatClampNeg)), (0, .ref (am 0)), (1, .int x1)]) dX9_behind_8 rfl (by decide) rfl ?_
  refine g_iconst F (v := (0 : Int32)) dX9_behind_9 (by decide) ?_
  refine g_istore_n F (lv' := [(3, .int (0 : Int32)), (2, .int (m_s (((0 : Int32) + x1)).toNatClampNeg)), (0, .ref (am 0)), (1, .int x1)]) dX9_behind_10 rfl (by decide) rfl ?_
  refine Go.sub (lv' := [(0, .ref (am 0)), (2, .int (m_s (((0 : Int32) + x1)).toNatClampNeg)), (3, .int (0 : Int32))]) [2, 1, 0] rfl ?_
  refine k_X9_behind_11_ok am Mm m_s F Rq _ (fun x2_3 h => ?_) _ (m_s (((0 : Int32) + x1)).toNatClampNeg) (0 : Int32) h
  refine g_iload_n F dX9_behind_68 rfl 0 rfl ?_
  obtain rfl := Option.some.inj h
  exact g_iret F Rq rfl dX9_behind_69
theorem hi_X9_ahead_X9 : ∀ w ∈ u_ws RX9 TX9 36, w ∈ wsX9_ahead := by decide +kernel
theorem fl_X9_ahead_145 : Cond.fieldLink RX9 145 "ArcOrderModel" "items" "I" ∈ wsX9_ahead := by decide +kernel
abbrev rm_X9_ahead : Room := { frames := 2, cells := 0, slots := 0, locals := 45 }
set_option maxHeartbeats 4000000 in
set_option maxRecDepth 100000 in
theorem k_X9_ahead_4_ok {G : GX} {cy : Nat → ClassId} (am : Nat → Nat)  (x1 : Int32) (Mm : ModS) (m_s : (Nat → Int32)) {out : Int32} (F : Fx G cX9_ahead wsX9_ahead RX9 cy 4 (rm_X9_ahead)) (Rq : Rx G "ahead" (some .int) (some (.int out)) (fun z => z = [(sMod cy am Mm), (sI cy (am 12) 24 m_s)]) 0 0) (ke : Int32 → Option (Int32)) (hke : ∀ (x2 : Int32) , ke x2 = some out → Go G 0 0 40 [(2, .int x2)] [] [(sMod cy am Mm), (sI cy (am 12) 24 m_s)]) : ∀ (n : Nat) (x2 : Int32) (x3 : Int32) , k_X9_ahead_4 x1 Mm m_s ke n x2 x3 = some out → Go G 0 0 4 [(0, .ref (am 0)), (1, .int x1), (2, .int x2), (3, .int x3)] [] [(sMod cy am Mm), (sI cy (am 12) 24 m_s)] := by
  intro n
  induction n with
  | zero =>
    intro x2 x3 h
    exact nosome h
  | succ n ih =>
    intro x2 x3 h
    rw [k_X9_ahead_4.eq_2] at h
    refine g_iload_n F dX9_ahead_4 rfl 3 rfl ?_
    refine g_aload_n F dX9_ahead_5 rfl 0 rfl ?_
    refine g_get F (C := RX9) (T := TX9) (N := 36) (ci := 9) (v := .int (Mm 8)) hi_X9_ahead_X9 0 0 8 dX9_ahead_6 rfl rfl (by decide) fl_X9_ahead_145 rfl ?_
    refine g_icmp_ge F 40 h dX9_ahead_9 (by decide) (fun h => ?_) (fun h => ?_)
    · refine Go.sub (lv' := [(2, .int x2)]) [2] rfl ?_
      exact hke x2 h
    · refine g_iload_n F dX9_ahead_12 rfl 2 rfl ?_
      refine g_aload_n F dX9_ahead_13 rfl 0 rfl ?_
      refine g_iload_n F dX9_ahead_14 rfl 3 rfl ?_
      obtain ⟨r1, hr1, h⟩ := bnd h
      refine g_cV F [.int x3] 0 0 (ok_X9_behind (gl G) (gD G) cy am Mm m_s x3 r1 hr1) dX9_ahead_15 rfl rfl gX9_ahead_X9_behind rfl ⟨rfl, cd_X9_behind⟩ (by decide) rfl (Nat.le_of_ble_eq_true rfl) [0, 1] (by decide) rfl rfl (sg' := [(sMod cy am Mm), (sI cy (am 12) 24 m_s)]) (st' := [.int r1, .int x2]) rfl rfl ?_
      refine g_iload_n F dX9_ahead_18 rfl 1 rfl ?_
      obtain ⟨r2, hr2, h⟩ := bnd h
      refine g_cS F [.int r1, .int x1] (ok_X9_has (gl G) (gD G) cy r1 x1 r2 hr2) dX9_ahead_19 gX9_ahead_X9_has rfl cd_X9_has (by decide) rfl (Nat.le_of_ble_eq_true rfl) [] (by decide) rfl rfl (sg' := [(sMod cy am Mm), (sI cy (am 12) 24 m_s)]) (st' := [.int r2, .int x2]) rfl rfl ?_
      refine g_if_eq F 31 h dX9_ahead_22 (by decide) (fun h => ?_) (fun h => ?_)
      · refine g_iconst F (v := (0 : Int32)) dX9_ahead_31 (by decide) ?_
        refine g_ior F dX9_ahead_32 ?_
        refine g_istore_n F (lv' := [(2, .int (x2 ||| (0 : Int32))), (0, .ref (am 0)), (1, .int x1), (3, .int x3)]) dX9_ahead_33 rfl (by decide) rfl ?_
        refine g_iinc F (v := (x3 + 1)) (lv' := [(3, .int (x3 + 1)), (2, .int (x2 ||| (0 : Int32))), (0, .ref (am 0)), (1, .int x1)]) dX9_ahead_34 3 rfl rfl (by decide) rfl ?_
        refine g_goto F 4 dX9_ahead_37 (by decide) ?_
        refine Go.sub (lv' := [(0, .ref (am 0)), (1, .int x1), (2, .int (x2 ||| (0 : Int32))), (3, .int (x3 + 1))]) [2, 3, 1, 0] rfl ?_
        exact ih (x2 ||| (0 : Int32)) (x3 + 1) h
      · refine g_iconst F (v := (1 : Int32)) dX9_ahead_25 (by decide) ?_
        refine g_iload_n F dX9_ahead_26 rfl 3 rfl ?_
        refine g_ishl F dX9_ahead_27 ?_
        refine g_goto F 32 dX9_ahead_28 (by decide) ?_
        refine g_ior F dX9_ahead_32 ?_
        refine g_istore_n F (lv' := [(2, .int (x2 ||| ((1 : Int32) <<< (x3 &&& 31)))), (0, .ref (am 0)), (1, .int x1), (3, .int x3)]) dX9_ahead_33 rfl (by decide) rfl ?_
        refine g_iinc F (v := (x3 + 1)) (lv' := [(3, .int (x3 + 1)), (2, .int (x2 ||| ((1 : Int32) <<< (x3 &&& 31)))), (0, .ref (am 0)), (1, .int x1)]) dX9_ahead_34 3 rfl rfl (by decide) rfl ?_
        refine g_goto F 4 dX9_ahead_37 (by decide) ?_
        refine Go.sub (lv' := [(0, .ref (am 0)), (1, .int x1), (2, .int (x2 ||| ((1 : Int32) <<< (x3 &&& 31)))), (3, .int (x3 + 1))]) [2, 3, 1, 0] rfl ?_
        exact ih (x2 ||| ((1 : Int32) <<< (x3 &&& 31))) (x3 + 1) h
set_option maxHeartbeats 4000000 in
set_option maxRecDepth 100000 in
theorem ok_X9_ahead (l : Launch) (D : va_G) (cy : Nat → ClassId) (am : Nat → Nat)  (Mm : ModS) (m_s : (Nat → Int32)) (x1 : Int32) (out : Int32) (h : f_X9_ahead Mm m_s x1 = some out) : OK l D cy yX9_ahead wsX9_ahead rm_X9_ahead [.ref (am 0), .int x1] [(sMod cy am Mm), (sI cy (am 12) 24 m_s)] (some (.int out)) [(sMod cy am Mm), (sI cy (am 12) 24 m_s)] := by
  refine OKx.of (cc := cX9_ahead) (maxL := 4) (ret := (some .int)) (by decide) rfl (Nat.le_of_ble_eq_true rfl) (fun G F Rq => ?_)
  show Go G 0 0 0 [(0, .ref (am 0)), (1, .int x1)] [] [(sMod cy am Mm), (sI cy (am 12) 24 m_s)]
  replace F : Fx G cX9_ahead wsX9_ahead RX9 cy 4 (rm_X9_ahead) := F
  replace Rq : Rx G "ahead" (some .int) (some (.int out)) (fun z => z = [(sMod cy am Mm), (sI cy (am 12) 24 m_s)]) 0 0 := Rq
  unfold f_X9_ahead at h
  refine g_iconst F (v := (0 : Int32)) dX9_ahead_0 (by decide) ?_
  refine g_istore_n F (lv' := [(2, .int (0 : Int32)), (0, .ref (am 0)), (1, .int x1)]) dX9_ahead_1 rfl (by decide) rfl ?_
  refine g_iconst F (v := (0 : Int32)) dX9_ahead_2 (by decide) ?_
  refine g_istore_n F (lv' := [(3, .int (0 : Int32)), (2, .int (0 : Int32)), (0, .ref (am 0)), (1, .int x1)]) dX9_ahead_3 rfl (by decide) rfl ?_
  refine Go.sub (lv' := [(0, .ref (am 0)), (1, .int x1), (2, .int (0 : Int32)), (3, .int (0 : Int32))]) [2, 3, 1, 0] rfl ?_
  refine k_X9_ahead_4_ok am x1 Mm m_s F Rq _ (fun x2_3 h => ?_) _ (0 : Int32) (0 : Int32) h
  refine g_iload_n F dX9_ahead_40 rfl 0 rfl ?_
  obtain rfl := Option.some.inj h
  exact g_iret F Rq rfl dX9_ahead_41
theorem hi_X9_into_X9 : ∀ w ∈ u_ws RX9 TX9 36, w ∈ wsX9_into := by decide +kernel
theorem fl_X9_into_145 : Cond.fieldLink RX9 145 "ArcOrderModel" "items" "I" ∈ wsX9_into := by decide +kernel
theorem fl_X9_into_16 : Cond.fieldLink RX9 16 "ArcOrderModel" "s" "[I" ∈ wsX9_into := by decide +kernel
abbrev rm_X9_into : Room := { frames := 1, cells := 0, slots := 0, locals := 21 }
set_option maxHeartbeats 4000000 in
set_option maxRecDepth 100000 in
theorem k_X9_into_4_ok {G : GX} {cy : Nat → ClassId} (am : Nat → Nat)  (x1 : Int32) (Mm : ModS) (m_s : (Nat → Int32)) {out : Int32} (F : Fx G cX9_into wsX9_into RX9 cy 4 (rm_X9_into)) (Rq : Rx G "into" (some .int) (some (.int out)) (fun z => z = [(sMod cy am Mm), (sI cy (am 12) 24 m_s)]) 0 0) (ke : Int32 → Option (Int32)) (hke : ∀ (x2 : Int32) , ke x2 = some out → Go G 0 0 43 [(2, .int x2)] [] [(sMod cy am Mm), (sI cy (am 12) 24 m_s)]) : ∀ (n : Nat) (x2 : Int32) (x3 : Int32) , k_X9_into_4 x1 Mm m_s ke n x2 x3 = some out → Go G 0 0 4 [(0, .ref (am 0)), (1, .int x1), (2, .int x2), (3, .int x3)] [] [(sMod cy am Mm), (sI cy (am 12) 24 m_s)] := by
  intro n
  induction n with
  | zero =>
    intro x2 x3 h
    exact nosome h
  | succ n ih =>
    intro x2 x3 h
    rw [k_X9_into_4.eq_2] at h
    refine g_iload_n F dX9_into_4 rfl 3 rfl ?_
    refine g_aload_n F dX9_into_5 rfl 0 rfl ?_
    refine g_get F (C := RX9) (T := TX9) (N := 36) (ci := 9) (v := .int (Mm 8)) hi_X9_into_X9 0 0 8 dX9_into_6 rfl rfl (by decide) fl_X9_into_145 rfl ?_
    refine g_icmp_ge F 43 h dX9_into_9 (by decide) (fun h => ?_) (fun h => ?_)
    · refine Go.sub (lv' := [(2, .int x2)]) [2] rfl ?_
      exact hke x2 h
    · refine g_iload_n F dX9_into_12 rfl 2 rfl ?_
      refine g_aload_n F dX9_into_13 rfl 0 rfl ?_
      refine g_get F (C := RX9) (T := TX9) (N := 36) (ci := 9) (v := .ref (am 12)) hi_X9_into_X9 0 0 11 dX9_into_14 rfl rfl (by decide) fl_X9_into_16 rfl ?_
      refine g_iconst F (v := (0 : Int32)) dX9_into_17 (by decide) ?_
      refine g_iload_n F dX9_into_18 rfl 3 rfl ?_
      refine g_iadd F dX9_into_19 ?_
      refine g_iaload F h 1 0 dX9_into_20 rfl (fun h => ?_)
      refine g_iload_n F dX9_into_21 rfl 1 rfl ?_
      obtain ⟨r1, hr1, h⟩ := bnd h
      refine g_cS F [.int (m_s (((0 : Int32) + x3)).toNatClampNeg), .int x1] (ok_X9_has (gl G) (gD G) cy (m_s (((0 : Int32) + x3)).toNatClampNeg) x1 r1 hr1) dX9_into_22 gX9_into_X9_has rfl cd_X9_has (by decide) rfl (Nat.le_of_ble_eq_true rfl) [] (by decide) rfl rfl (sg' := [(sMod cy am Mm), (sI cy (am 12) 24 m_s)]) (st' := [.int r1, .int x2]) rfl rfl ?_
      refine g_if_eq F 34 h dX9_into_25 (by decide) (fun h => ?_) (fun h => ?_)
      · refine g_iconst F (v := (0 : Int32)) dX9_into_34 (by decide) ?_
        refine g_ior F dX9_into_35 ?_
        refine g_istore_n F (lv' := [(2, .int (x2 ||| (0 : Int32))), (0, .ref (am 0)), (1, .int x1), (3, .int x3)]) dX9_into_36 rfl (by decide) rfl ?_
        refine g_iinc F (v := (x3 + 1)) (lv' := [(3, .int (x3 + 1)), (2, .int (x2 ||| (0 : Int32))), (0, .ref (am 0)), (1, .int x1)]) dX9_into_37 3 rfl rfl (by decide) rfl ?_
        refine g_goto F 4 dX9_into_40 (by decide) ?_
        refine Go.sub (lv' := [(0, .ref (am 0)), (1, .int x1), (2, .int (x2 ||| (0 : Int32))), (3, .int (x3 + 1))]) [2, 3, 1, 0] rfl ?_
        exact ih (x2 ||| (0 : Int32)) (x3 + 1) h
      · refine g_iconst F (v := (1 : Int32)) dX9_into_28 (by decide) ?_
        refine g_iload_n F dX9_into_29 rfl 3 rfl ?_
        refine g_ishl F dX9_into_30 ?_
        refine g_goto F 35 dX9_into_31 (by decide) ?_
        refine g_ior F dX9_into_35 ?_
        refine g_istore_n F (lv' := [(2, .int (x2 ||| ((1 : Int32) <<< (x3 &&& 31)))), (0, .ref (am 0)), (1, .int x1), (3, .int x3)]) dX9_into_36 rfl (by decide) rfl ?_
        refine g_iinc F (v := (x3 + 1)) (lv' := [(3, .int (x3 + 1)), (2, .int (x2 ||| ((1 : Int32) <<< (x3 &&& 31)))), (0, .ref (am 0)), (1, .int x1)]) dX9_into_37 3 rfl rfl (by decide) rfl ?_
        refine g_goto F 4 dX9_into_40 (by decide) ?_
        refine Go.sub (lv' := [(0, .ref (am 0)), (1, .int x1), (2, .int (x2 ||| ((1 : Int32) <<< (x3 &&& 31)))), (3, .int (x3 + 1))]) [2, 3, 1, 0] rfl ?_
        exact ih (x2 ||| ((1 : Int32) <<< (x3 &&& 31))) (x3 + 1) h
set_option maxHeartbeats 4000000 in
set_option maxRecDepth 100000 in
theorem ok_X9_into (l : Launch) (D : va_G) (cy : Nat → ClassId) (am : Nat → Nat)  (Mm : ModS) (m_s : (Nat → Int32)) (x1 : Int32) (out : Int32) (h : f_X9_into Mm m_s x1 = some out) : OK l D cy yX9_into wsX9_into rm_X9_into [.ref (am 0), .int x1] [(sMod cy am Mm), (sI cy (am 12) 24 m_s)] (some (.int out)) [(sMod cy am Mm), (sI cy (am 12) 24 m_s)] := by
  refine OKx.of (cc := cX9_into) (maxL := 4) (ret := (some .int)) (by decide) rfl (Nat.le_of_ble_eq_true rfl) (fun G F Rq => ?_)
  show Go G 0 0 0 [(0, .ref (am 0)), (1, .int x1)] [] [(sMod cy am Mm), (sI cy (am 12) 24 m_s)]
  replace F : Fx G cX9_into wsX9_into RX9 cy 4 (rm_X9_into) := F
  replace Rq : Rx G "into" (some .int) (some (.int out)) (fun z => z = [(sMod cy am Mm), (sI cy (am 12) 24 m_s)]) 0 0 := Rq
  unfold f_X9_into at h
  refine g_iconst F (v := (0 : Int32)) dX9_into_0 (by decide) ?_
  refine g_istore_n F (lv' := [(2, .int (0 : Int32)), (0, .ref (am 0)), (1, .int x1)]) dX9_into_1 rfl (by decide) rfl ?_
  refine g_iconst F (v := (0 : Int32)) dX9_into_2 (by decide) ?_
  refine g_istore_n F (lv' := [(3, .int (0 : Int32)), (2, .int (0 : Int32)), (0, .ref (am 0)), (1, .int x1)]) dX9_into_3 rfl (by decide) rfl ?_
  refine Go.sub (lv' := [(0, .ref (am 0)), (1, .int x1), (2, .int (0 : Int32)), (3, .int (0 : Int32))]) [2, 3, 1, 0] rfl ?_
  refine k_X9_into_4_ok am x1 Mm m_s F Rq _ (fun x2_2 h => ?_) _ (0 : Int32) (0 : Int32) h
  refine g_iload_n F dX9_into_43 rfl 0 rfl ?_
  obtain rfl := Option.some.inj h
  exact g_iret F Rq rfl dX9_into_44
theorem hi_X9_item_X9 : ∀ w ∈ u_ws RX9 TX9 36, w ∈ wsX9_item := by decide +kernel
theorem fl_X9_item_75 : Cond.fieldLink RX9 75 "ArcOrderModel" "thrown" "I" ∈ wsX9_item := by decide +kernel
theorem fl_X9_item_145 : Cond.fieldLink RX9 145 "ArcOrderModel" "items" "I" ∈ wsX9_item := by decide +kernel
theorem fl_X9_item_16 : Cond.fieldLink RX9 16 "ArcOrderModel" "s" "[I" ∈ wsX9_item := by decide +kernel
abbrev rm_X9_item : Room := { frames := 3, cells := 0, slots := 0, locals := 68 }
set_option maxHeartbeats 4000000 in
set_option maxRecDepth 100000 in
theorem ok_X9_item (l : Launch) (D : va_G) (cy : Nat → ClassId) (am : Nat → Nat)  (Mm : ModS) (m_s : (Nat → Int32)) (x1 : Int32) (x2 : Int32) (out : Int32 × ModS) (h : f_X9_item Mm m_s x1 x2 = some out) : OK l D cy yX9_item wsX9_item rm_X9_item [.ref (am 0), .int x1, .int x2] [(sMod cy am Mm), (sI cy (am 12) 24 m_s)] (some (.int out.1)) [(sMod cy am out.2), (sI cy (am 12) 24 m_s)] := by
  refine OKx.of (cc := cX9_item) (maxL := 3) (ret := (some .int)) (by decide) rfl (Nat.le_of_ble_eq_true rfl) (fun G F Rq => ?_)
  show Go G 0 0 0 [(0, .ref (am 0)), (1, .int x1), (2, .int x2)] [] [(sMod cy am Mm), (sI cy (am 12) 24 m_s)]
  replace F : Fx G cX9_item wsX9_item RX9 cy 3 (rm_X9_item) := F
  replace Rq : Rx G "item" (some .int) (some (.int out.1)) (fun z => z = [(sMod cy am out.2), (sI cy (am 12) 24 m_s)]) 0 0 := Rq
  unfold f_X9_item at h
  refine g_aload_n F dX9_item_0 rfl 0 rfl ?_
  refine g_iconst F (v := (0 : Int32)) dX9_item_1 (by decide) ?_
  refine g_put F (C := RX9) (T := TX9) (N := 36) (ci := 9) (v := .int (0 : Int32)) (ty := .int) (sg' := [(sMod cy am (upd Mm 0 (0 : Int32))), (sI cy (am 12) 24 m_s)]) hi_X9_item_X9 tyX9 tyX9_ok nmX9 0 0 0 dX9_item_2 rfl rfl (by decide) fl_X9_item_75 rfl rfl rfl rfl (Nat.le_of_ble_eq_true rfl) rfl ?_
  refine g_aload_n F dX9_item_5 rfl 0 rfl ?_
  refine g_iload_n F dX9_item_6 rfl 1 rfl ?_
  obtain ⟨r1, hr1, h⟩ := bnd h
  refine g_cV F [.int x1] 0 0 (ok_X9_isItem (gl G) (gD G) cy am (upd Mm 0 (0 : Int32)) x1 r1 hr1) dX9_item_7 rfl rfl gX9_item_X9_isItem rfl ⟨rfl, cd_X9_isItem⟩ (by decide) rfl (Nat.le_of_ble_eq_true rfl) [0] (by decide) rfl rfl (sg' := [(sMod cy am (upd Mm 0 (0 : Int32))), (sI cy (am 12) 24 m_s)]) (st' := [.int r1]) rfl rfl ?_
  refine g_if_eq F 23 h dX9_item_10 (by decide) (fun h => ?_) (fun h => ?_)
  · refine g_iconst F (v := (-1 : Int32)) dX9_item_23 (by decide) ?_
    obtain rfl := Option.some.inj h
    exact g_iret F Rq rfl dX9_item_24
  · refine g_iload_n F dX9_item_13 rfl 2 rfl ?_
    refine g_iconst F (v := (0 : Int32)) dX9_item_14 (by decide) ?_
    refine g_bipush F (v := (6 : Int32)) dX9_item_15 (by decide) ?_
    obtain ⟨r2, hr2, h⟩ := bnd h
    refine g_cS F [.int x2, .int (0 : Int32), .int (6 : Int32)] (ok_X9_in (gl G) (gD G) cy x2 (0 : Int32) (6 : Int32) r2 hr2) dX9_item_17 gX9_item_X9_in rfl cd_X9_in (by decide) rfl (Nat.le_of_ble_eq_true rfl) [] (by decide) rfl rfl (sg' := [(sMod cy am (upd Mm 0 (0 : Int32))), (sI cy (am 12) 24 m_s)]) (st' := [.int r2]) rfl rfl ?_
    refine g_if_ne F 25 h dX9_item_20 (by decide) (fun h => ?_) (fun h => ?_)
    · refine g_iload_n F dX9_item_25 rfl 2 rfl ?_
      refine g_iconst F (v := (3 : Int32)) dX9_item_26 (by decide) ?_
      refine g_icmp_ge F 68 h dX9_item_27 (by decide) (fun h => ?_) (fun h => ?_)
      · refine g_iload_n F dX9_item_68 rfl 2 rfl ?_
        refine g_iconst F (v := (5 : Int32)) dX9_item_69 (by decide) ?_
        refine g_icmp_ge F 105 h dX9_item_70 (by decide) (fun h => ?_) (fun h => ?_)
        · refine g_iload_n F dX9_item_105 rfl 2 rfl ?_
          refine g_iconst F (v := (5 : Int32)) dX9_item_106 (by decide) ?_
          refine g_icmp_ne F 118 h dX9_item_107 (by decide) (fun h => ?_) (fun h => ?_)
          · refine g_aload_n F dX9_item_118 rfl 0 rfl ?_
            refine g_iload_n F dX9_item_119 rfl 1 rfl ?_
            obtain ⟨r3, hr3, h⟩ := bnd h
            refine g_cV F [.int x1] 0 0 (ok_X9_ahead (gl G) (gD G) cy am (upd Mm 0 (0 : Int32)) m_s x1 r3 hr3) dX9_item_120 rfl rfl gX9_item_X9_ahead rfl ⟨rfl, cd_X9_ahead⟩ (by decide) rfl (Nat.le_of_ble_eq_true rfl) [0, 1] (by decide) rfl rfl (sg' := [(sMod cy am (upd Mm 0 (0 : Int32))), (sI cy (am 12) 24 m_s)]) (st' := [.int r3]) rfl rfl ?_
            obtain rfl := Option.some.inj h
            exact g_iret F Rq rfl dX9_item_123
          · refine g_aload_n F dX9_item_110 rfl 0 rfl ?_
            refine g_iload_n F dX9_item_111 rfl 1 rfl ?_
            obtain ⟨r4, hr4, h⟩ := bnd h
            refine g_cV F [.int x1] 0 0 (ok_X9_behind (gl G) (gD G) cy am (upd Mm 0 (0 : Int32)) m_s x1 r4 hr4) dX9_item_112 rfl rfl gX9_item_X9_behind rfl ⟨rfl, cd_X9_behind⟩ (by decide) rfl (Nat.le_of_ble_eq_true rfl) [0, 1] (by decide) rfl rfl (sg' := [(sMod cy am (upd Mm 0 (0 : Int32))), (sI cy (am 12) 24 m_s)]) (st' := [.int r4]) rfl rfl ?_
            refine g_goto F 123 dX9_item_115 (by decide) ?_
            obtain rfl := Option.some.inj h
            exact g_iret F Rq rfl dX9_item_123
        · refine g_iload_n F dX9_item_73 rfl 2 rfl ?_
          refine g_iconst F (v := (3 : Int32)) dX9_item_74 (by decide) ?_
          refine g_icmp_ne F 89 h dX9_item_75 (by decide) (fun h => ?_) (fun h => ?_)
          · refine g_aload_n F dX9_item_89 rfl 0 rfl ?_
            refine g_get F (C := RX9) (T := TX9) (N := 36) (ci := 9) (v := .int (Mm 8)) hi_X9_item_X9 0 0 8 dX9_item_90 rfl rfl (by decide) fl_X9_item_145 rfl ?_
            refine g_iconst F (v := (1 : Int32)) dX9_item_93 (by decide) ?_
            refine g_isub F dX9_item_94 ?_
            refine g_aload_n F dX9_item_95 rfl 0 rfl ?_
            refine g_iload_n F dX9_item_96 rfl 1 rfl ?_
            obtain ⟨r5, hr5, h⟩ := bnd h
            refine g_cV F [.int x1] 0 0 (ok_X9_behind (gl G) (gD G) cy am (upd Mm 0 (0 : Int32)) m_s x1 r5 hr5) dX9_item_97 rfl rfl gX9_item_X9_behind rfl ⟨rfl, cd_X9_behind⟩ (by decide) rfl (Nat.le_of_ble_eq_true rfl) [0, 1] (by decide) rfl rfl (sg' := [(sMod cy am (upd Mm 0 (0 : Int32))), (sI cy (am 12) 24 m_s)]) (st' := [.int r5, .int ((Mm 8) - (1 : Int32))]) rfl rfl ?_
            obtain ⟨r6, hr6, h⟩ := bnd h
            refine g_cS F [.int r5] (ok_X9_ones (gl G) (gD G) cy r5 r6 hr6) dX9_item_100 gX9_item_X9_ones rfl cd_X9_ones (by decide) rfl (Nat.le_of_ble_eq_true rfl) [] (by decide) rfl rfl (sg' := [(sMod cy am (upd Mm 0 (0 : Int32))), (sI cy (am 12) 24 m_s)]) (st' := [.int r6, .int ((Mm 8) - (1 : Int32))]) rfl rfl ?_
            refine g_isub F dX9_item_103 ?_
            obtain rfl := Option.some.inj h
            exact g_iret F Rq rfl dX9_item_104
          · refine g_aload_n F dX9_item_78 rfl 0 rfl ?_
            refine g_iload_n F dX9_item_79 rfl 1 rfl ?_
            obtain ⟨r7, hr7, h⟩ := bnd h
            refine g_cV F [.int x1] 0 0 (ok_X9_ahead (gl G) (gD G) cy am (upd Mm 0 (0 : Int32)) m_s x1 r7 hr7) dX9_item_80 rfl rfl gX9_item_X9_ahead rfl ⟨rfl, cd_X9_ahead⟩ (by decide) rfl (Nat.le_of_ble_eq_true rfl) [0, 1] (by decide) rfl rfl (sg' := [(sMod cy am (upd Mm 0 (0 : Int32))), (sI cy (am 12) 24 m_s)]) (st' := [.int r7]) rfl rfl ?_
            obtain ⟨r8, hr8, h⟩ := bnd h
            refine g_cS F [.int r7] (ok_X9_ones (gl G) (gD G) cy r7 r8 hr8) dX9_item_83 gX9_item_X9_ones rfl cd_X9_ones (by decide) rfl (Nat.le_of_ble_eq_true rfl) [] (by decide) rfl rfl (sg' := [(sMod cy am (upd Mm 0 (0 : Int32))), (sI cy (am 12) 24 m_s)]) (st' := [.int r8]) rfl rfl ?_
            refine g_goto F 104 dX9_item_86 (by decide) ?_
            obtain rfl := Option.some.inj h
            exact g_iret F Rq rfl dX9_item_104
      · refine g_iload_n F dX9_item_30 rfl 2 rfl ?_
        refine g_if_ne F 46 h dX9_item_31 (by decide) (fun h => ?_) (fun h => ?_)
        · refine g_iload_n F dX9_item_46 rfl 2 rfl ?_
          refine g_iconst F (v := (1 : Int32)) dX9_item_47 (by decide) ?_
          refine g_icmp_ne F 62 h dX9_item_48 (by decide) (fun h => ?_) (fun h => ?_)
          · refine g_aload_n F dX9_item_62 rfl 0 rfl ?_
            refine g_iload_n F dX9_item_63 rfl 1 rfl ?_
            obtain ⟨r9, hr9, h⟩ := bnd h
            refine g_cV F [.int x1] 0 0 (ok_X9_into (gl G) (gD G) cy am (upd Mm 0 (0 : Int32)) m_s x1 r9 hr9) dX9_item_64 rfl rfl gX9_item_X9_into rfl ⟨rfl, cd_X9_into⟩ (by decide) rfl (Nat.le_of_ble_eq_true rfl) [0, 1] (by decide) rfl rfl (sg' := [(sMod cy am (upd Mm 0 (0 : Int32))), (sI cy (am 12) 24 m_s)]) (st' := [.int r9]) rfl rfl ?_
            obtain rfl := Option.some.inj h
            exact g_iret F Rq rfl dX9_item_67
          · refine g_aload_n F dX9_item_51 rfl 0 rfl ?_
            refine g_get F (C := RX9) (T := TX9) (N := 36) (ci := 9) (v := .ref (am 12)) hi_X9_item_X9 0 0 11 dX9_item_52 rfl rfl (by decide) fl_X9_item_16 rfl ?_
            refine g_iconst F (v := (0 : Int32)) dX9_item_55 (by decide) ?_
            refine g_iload_n F dX9_item_56 rfl 1 rfl ?_
            refine g_iadd F dX9_item_57 ?_
            refine g_iaload F h 1 0 dX9_item_58 rfl (fun h => ?_)
            refine g_goto F 67 dX9_item_59 (by decide) ?_
            obtain rfl := Option.some.inj h
            exact g_iret F Rq rfl dX9_item_67
        · refine g_aload_n F dX9_item_34 rfl 0 rfl ?_
          refine g_get F (C := RX9) (T := TX9) (N := 36) (ci := 9) (v := .ref (am 12)) hi_X9_item_X9 0 0 11 dX9_item_35 rfl rfl (by decide) fl_X9_item_16 rfl ?_
          refine g_bipush F (v := (12 : Int32)) dX9_item_38 (by decide) ?_
          refine g_iload_n F dX9_item_40 rfl 1 rfl ?_
          refine g_iadd F dX9_item_41 ?_
          refine g_iaload F h 1 0 dX9_item_42 rfl (fun h => ?_)
          refine g_goto F 67 dX9_item_43 (by decide) ?_
          obtain rfl := Option.some.inj h
          exact g_iret F Rq rfl dX9_item_67
    · refine g_iconst F (v := (-1 : Int32)) dX9_item_23 (by decide) ?_
      obtain rfl := Option.some.inj h
      exact g_iret F Rq rfl dX9_item_24
theorem hi_X9_at_X9 : ∀ w ∈ u_ws RX9 TX9 36, w ∈ wsX9_at := by decide +kernel
theorem fl_X9_at_75 : Cond.fieldLink RX9 75 "ArcOrderModel" "thrown" "I" ∈ wsX9_at := by decide +kernel
theorem fl_X9_at_16 : Cond.fieldLink RX9 16 "ArcOrderModel" "s" "[I" ∈ wsX9_at := by decide +kernel
theorem fl_X9_at_145 : Cond.fieldLink RX9 145 "ArcOrderModel" "items" "I" ∈ wsX9_at := by decide +kernel
abbrev rm_X9_at : Room := { frames := 2, cells := 0, slots := 0, locals := 43 }
set_option maxHeartbeats 4000000 in
set_option maxRecDepth 100000 in
theorem ok_X9_at (l : Launch) (D : va_G) (cy : Nat → ClassId) (am : Nat → Nat)  (Mm : ModS) (m_s : (Nat → Int32)) (x1 : Int32) (out : Int32 × ModS) (h : f_X9_at Mm m_s x1 = some out) : OK l D cy yX9_at wsX9_at rm_X9_at [.ref (am 0), .int x1] [(sMod cy am Mm), (sI cy (am 12) 24 m_s)] (some (.int out.1)) [(sMod cy am out.2), (sI cy (am 12) 24 m_s)] := by
  refine OKx.of (cc := cX9_at) (maxL := 2) (ret := (some .int)) (by decide) rfl (Nat.le_of_ble_eq_true rfl) (fun G F Rq => ?_)
  show Go G 0 0 0 [(0, .ref (am 0)), (1, .int x1)] [] [(sMod cy am Mm), (sI cy (am 12) 24 m_s)]
  replace F : Fx G cX9_at wsX9_at RX9 cy 2 (rm_X9_at) := F
  replace Rq : Rx G "at" (some .int) (some (.int out.1)) (fun z => z = [(sMod cy am out.2), (sI cy (am 12) 24 m_s)]) 0 0 := Rq
  unfold f_X9_at at h
  refine g_aload_n F dX9_at_0 rfl 0 rfl ?_
  refine g_iconst F (v := (0 : Int32)) dX9_at_1 (by decide) ?_
  refine g_put F (C := RX9) (T := TX9) (N := 36) (ci := 9) (v := .int (0 : Int32)) (ty := .int) (sg' := [(sMod cy am (upd Mm 0 (0 : Int32))), (sI cy (am 12) 24 m_s)]) hi_X9_at_X9 tyX9 tyX9_ok nmX9 0 0 0 dX9_at_2 rfl rfl (by decide) fl_X9_at_75 rfl rfl rfl rfl (Nat.le_of_ble_eq_true rfl) rfl ?_
  refine g_aload_n F dX9_at_5 rfl 0 rfl ?_
  refine g_iload_n F dX9_at_6 rfl 1 rfl ?_
  obtain ⟨r1, hr1, h⟩ := bnd h
  refine g_cV F [.int x1] 0 0 (ok_X9_isItem (gl G) (gD G) cy am (upd Mm 0 (0 : Int32)) x1 r1 hr1) dX9_at_7 rfl rfl gX9_at_X9_isItem rfl ⟨rfl, cd_X9_isItem⟩ (by decide) rfl (Nat.le_of_ble_eq_true rfl) [0] (by decide) rfl rfl (sg' := [(sMod cy am (upd Mm 0 (0 : Int32))), (sI cy (am 12) 24 m_s)]) (st' := [.int r1]) rfl rfl ?_
  refine g_if_eq F 28 h dX9_at_10 (by decide) (fun h => ?_) (fun h => ?_)
  · refine g_iconst F (v := (-1 : Int32)) dX9_at_28 (by decide) ?_
    obtain rfl := Option.some.inj h
    exact g_iret F Rq rfl dX9_at_29
  · refine g_aload_n F dX9_at_13 rfl 0 rfl ?_
    refine g_get F (C := RX9) (T := TX9) (N := 36) (ci := 9) (v := .ref (am 12)) hi_X9_at_X9 0 0 11 dX9_at_14 rfl rfl (by decide) fl_X9_at_16 rfl ?_
    refine g_aload_n F dX9_at_17 rfl 0 rfl ?_
    refine g_get F (C := RX9) (T := TX9) (N := 36) (ci := 9) (v := .int (Mm 8)) hi_X9_at_X9 0 0 8 dX9_at_18 rfl rfl (by decide) fl_X9_at_145 rfl ?_
    refine g_iload_n F dX9_at_21 rfl 1 rfl ?_
    obtain ⟨r2, hr2, h⟩ := bnd h
    refine g_cS F [.ref (am 12), .int (Mm 8), .int x1] (ok_X9_itemAt (gl G) (gD G) cy (am 12) m_s (Mm 8) x1 r2 hr2) dX9_at_22 gX9_at_X9_itemAt rfl cd_X9_itemAt (by decide) rfl (Nat.le_of_ble_eq_true rfl) [1] (by decide) rfl rfl (sg' := [(sMod cy am (upd Mm 0 (0 : Int32))), (sI cy (am 12) 24 m_s)]) (st' := [.int r2]) rfl rfl ?_
    refine g_goto F 29 dX9_at_25 (by decide) ?_
    obtain rfl := Option.some.inj h
    exact g_iret F Rq rfl dX9_at_29
theorem hi_X9_arcs_X9 : ∀ w ∈ u_ws RX9 TX9 36, w ∈ wsX9_arcs := by decide +kernel
theorem fl_X9_arcs_145 : Cond.fieldLink RX9 145 "ArcOrderModel" "items" "I" ∈ wsX9_arcs := by decide +kernel
theorem fl_X9_arcs_16 : Cond.fieldLink RX9 16 "ArcOrderModel" "s" "[I" ∈ wsX9_arcs := by decide +kernel
abbrev rm_X9_arcs : Room := { frames := 1, cells := 0, slots := 0, locals := 22 }
set_option maxHeartbeats 4000000 in
set_option maxRecDepth 100000 in
theorem k_X9_arcs_4_ok {G : GX} {cy : Nat → ClassId} (am : Nat → Nat)   (Mm : ModS) (m_s : (Nat → Int32)) {out : Int32} (F : Fx G cX9_arcs wsX9_arcs RX9 cy 3 (rm_X9_arcs)) (Rq : Rx G "arcs" (some .int) (some (.int out)) (fun z => z = [(sMod cy am Mm), (sI cy (am 12) 24 m_s)]) 0 0) (ke : Int32 → Option (Int32)) (hke : ∀ (x1 : Int32) , ke x1 = some out → Go G 0 0 32 [(1, .int x1)] [] [(sMod cy am Mm), (sI cy (am 12) 24 m_s)]) : ∀ (n : Nat) (x1 : Int32) (x2 : Int32) , k_X9_arcs_4 Mm m_s ke n x1 x2 = some out → Go G 0 0 4 [(0, .ref (am 0)), (1, .int x1), (2, .int x2)] [] [(sMod cy am Mm), (sI cy (am 12) 24 m_s)] := by
  intro n
  induction n with
  | zero =>
    intro x1 x2 h
    exact nosome h
  | succ n ih =>
    intro x1 x2 h
    rw [k_X9_arcs_4.eq_2] at h
    refine g_iload_n F dX9_arcs_4 rfl 2 rfl ?_
    refine g_aload_n F dX9_arcs_5 rfl 0 rfl ?_
    refine g_get F (C := RX9) (T := TX9) (N := 36) (ci := 9) (v := .int (Mm 8)) hi_X9_arcs_X9 0 0 8 dX9_arcs_6 rfl rfl (by decide) fl_X9_arcs_145 rfl ?_
    refine g_icmp_ge F 32 h dX9_arcs_9 (by decide) (fun h => ?_) (fun h => ?_)
    · refine Go.sub (lv' := [(1, .int x1)]) [1] rfl ?_
      exact hke x1 h
    · refine g_iload_n F dX9_arcs_12 rfl 1 rfl ?_
      refine g_aload_n F dX9_arcs_13 rfl 0 rfl ?_
      refine g_get F (C := RX9) (T := TX9) (N := 36) (ci := 9) (v := .ref (am 12)) hi_X9_arcs_X9 0 0 11 dX9_arcs_14 rfl rfl (by decide) fl_X9_arcs_16 rfl ?_
      refine g_iconst F (v := (0 : Int32)) dX9_arcs_17 (by decide) ?_
      refine g_iload_n F dX9_arcs_18 rfl 2 rfl ?_
      refine g_iadd F dX9_arcs_19 ?_
      refine g_iaload F h 1 0 dX9_arcs_20 rfl (fun h => ?_)
      obtain ⟨r1, hr1, h⟩ := bnd h
      refine g_cS F [.int (m_s (((0 : Int32) + x2)).toNatClampNeg)] (ok_X9_ones (gl G) (gD G) cy (m_s (((0 : Int32) + x2)).toNatClampNeg) r1 hr1) dX9_arcs_21 gX9_arcs_X9_ones rfl cd_X9_ones (by decide) rfl (Nat.le_of_ble_eq_true rfl) [] (by decide) rfl rfl (sg' := [(sMod cy am Mm), (sI cy (am 12) 24 m_s)]) (st' := [.int r1, .int x1]) rfl rfl ?_
      refine g_iadd F dX9_arcs_24 ?_
      refine g_istore_n F (lv' := [(1, .int (x1 + r1)), (0, .ref (am 0)), (2, .int x2)]) dX9_arcs_25 rfl (by decide) rfl ?_
      refine g_iinc F (v := (x2 + 1)) (lv' := [(2, .int (x2 + 1)), (1, .int (x1 + r1)), (0, .ref (am 0))]) dX9_arcs_26 2 rfl rfl (by decide) rfl ?_
      refine g_goto F 4 dX9_arcs_29 (by decide) ?_
      refine Go.sub (lv' := [(0, .ref (am 0)), (1, .int (x1 + r1)), (2, .int (x2 + 1))]) [2, 1, 0] rfl ?_
      exact ih (x1 + r1) (x2 + 1) h
set_option maxHeartbeats 4000000 in
set_option maxRecDepth 100000 in
theorem ok_X9_arcs (l : Launch) (D : va_G) (cy : Nat → ClassId) (am : Nat → Nat)  (Mm : ModS) (m_s : (Nat → Int32))  (out : Int32) (h : f_X9_arcs Mm m_s = some out) : OK l D cy yX9_arcs wsX9_arcs rm_X9_arcs [.ref (am 0)] [(sMod cy am Mm), (sI cy (am 12) 24 m_s)] (some (.int out)) [(sMod cy am Mm), (sI cy (am 12) 24 m_s)] := by
  refine OKx.of (cc := cX9_arcs) (maxL := 3) (ret := (some .int)) (by decide) rfl (Nat.le_of_ble_eq_true rfl) (fun G F Rq => ?_)
  show Go G 0 0 0 [(0, .ref (am 0))] [] [(sMod cy am Mm), (sI cy (am 12) 24 m_s)]
  replace F : Fx G cX9_arcs wsX9_arcs RX9 cy 3 (rm_X9_arcs) := F
  replace Rq : Rx G "arcs" (some .int) (some (.int out)) (fun z => z = [(sMod cy am Mm), (sI cy (am 12) 24 m_s)]) 0 0 := Rq
  unfold f_X9_arcs at h
  refine g_iconst F (v := (0 : Int32)) dX9_arcs_0 (by decide) ?_
  refine g_istore_n F (lv' := [(1, .int (0 : Int32)), (0, .ref (am 0))]) dX9_arcs_1 rfl (by decide) rfl ?_
  refine g_iconst F (v := (0 : Int32)) dX9_arcs_2 (by decide) ?_
  refine g_istore_n F (lv' := [(2, .int (0 : Int32)), (1, .int (0 : Int32)), (0, .ref (am 0))]) dX9_arcs_3 rfl (by decide) rfl ?_
  refine Go.sub (lv' := [(0, .ref (am 0)), (1, .int (0 : Int32)), (2, .int (0 : Int32))]) [2, 1, 0] rfl ?_
  refine k_X9_arcs_4_ok am Mm m_s F Rq _ (fun x1_2 h => ?_) _ (0 : Int32) (0 : Int32) h
  refine g_iload_n F dX9_arcs_32 rfl 0 rfl ?_
  obtain rfl := Option.some.inj h
  exact g_iret F Rq rfl dX9_arcs_33
theorem hi_X9_free_X9 : ∀ w ∈ u_ws RX9 TX9 36, w ∈ wsX9_free := by decide +kernel
theorem fl_X9_free_145 : Cond.fieldLink RX9 145 "ArcOrderModel" "items" "I" ∈ wsX9_free := by decide +kernel
theorem fl_X9_free_16 : Cond.fieldLink RX9 16 "ArcOrderModel" "s" "[I" ∈ wsX9_free := by decide +kernel
abbrev rm_X9_free : Room := { frames := 1, cells := 0, slots := 0, locals := 21 }
set_option maxHeartbeats 4000000 in
set_option maxRecDepth 100000 in
theorem k_X9_free_14_ok {G : GX} {cy : Nat → ClassId} (am : Nat → Nat)  (x2 : Int32) (Mm : ModS) (m_s : (Nat → Int32)) {out : Int32} (F : Fx G cX9_free wsX9_free RX9 cy 4 (rm_X9_free)) (Rq : Rx G "free" (some .int) (some (.int out)) (fun z => z = [(sMod cy am Mm), (sI cy (am 12) 24 m_s)]) 0 0) (ke : Int32 → Option (Int32)) (hke : ∀ (x1 : Int32) , ke x1 = some out → Go G 0 0 72 [(0, .ref (am 0)), (1, .int x1), (2, .int x2)] [] [(sMod cy am Mm), (sI cy (am 12) 24 m_s)]) : ∀ (n : Nat) (x1 : Int32) (x3 : Int32) , k_X9_free_14 x2 Mm m_s ke n x1 x3 = some out → Go G 0 0 14 [(0, .ref (am 0)), (1, .int x1), (2, .int x2), (3, .int x3)] [] [(sMod cy am Mm), (sI cy (am 12) 24 m_s)] := by
  intro n
  induction n with
  | zero =>
    intro x1 x3 h
    exact nosome h
  | succ n ih =>
    intro x1 x3 h
    rw [k_X9_free_14.eq_2] at h
    refine g_iload_n F dX9_free_14 rfl 3 rfl ?_
    refine g_aload_n F dX9_free_15 rfl 0 rfl ?_
    refine g_get F (C := RX9) (T := TX9) (N := 36) (ci := 9) (v := .int (Mm 8)) hi_X9_free_X9 0 0 8 dX9_free_16 rfl rfl (by decide) fl_X9_free_145 rfl ?_
    refine g_icmp_ge F 72 h dX9_free_19 (by decide) (fun h => ?_) (fun h => ?_)
    · refine Go.sub (lv' := [(0, .ref (am 0)), (1, .int x1), (2, .int x2)]) [0, 1, 2] rfl ?_
      exact hke x1 h
    · refine g_iload_n F dX9_free_22 rfl 1 rfl ?_
      refine g_aload_n F dX9_free_23 rfl 0 rfl ?_
      refine g_get F (C := RX9) (T := TX9) (N := 36) (ci := 9) (v := .ref (am 12)) hi_X9_free_X9 0 0 11 dX9_free_24 rfl rfl (by decide) fl_X9_free_16 rfl ?_
      refine g_bipush F (v := (12 : Int32)) dX9_free_27 (by decide) ?_
      refine g_iload_n F dX9_free_29 rfl 2 rfl ?_
      refine g_iadd F dX9_free_30 ?_
      refine g_iaload F h 1 0 dX9_free_31 rfl (fun h => ?_)
      refine g_aload_n F dX9_free_32 rfl 0 rfl ?_
      refine g_get F (C := RX9) (T := TX9) (N := 36) (ci := 9) (v := .ref (am 12)) hi_X9_free_X9 0 0 11 dX9_free_33 rfl rfl (by decide) fl_X9_free_16 rfl ?_
      refine g_bipush F (v := (12 : Int32)) dX9_free_36 (by decide) ?_
      refine g_iload_n F dX9_free_38 rfl 3 rfl ?_
      refine g_iadd F dX9_free_39 ?_
      refine g_iaload F h 1 0 dX9_free_40 rfl (fun h => ?_)
      refine g_icmp_ge F 63 h dX9_free_41 (by decide) (fun h => ?_) (fun h => ?_)
      · refine g_iconst F (v := (0 : Int32)) dX9_free_63 (by decide) ?_
        refine g_iadd F dX9_free_64 ?_
        refine g_istore_n F (lv' := [(1, .int (x1 + (0 : Int32))), (0, .ref (am 0)), (2, .int x2), (3, .int x3)]) dX9_free_65 rfl (by decide) rfl ?_
        refine g_iinc F (v := (x3 + 1)) (lv' := [(3, .int (x3 + 1)), (1, .int (x1 + (0 : Int32))), (0, .ref (am 0)), (2, .int x2)]) dX9_free_66 3 rfl rfl (by decide) rfl ?_
        refine g_goto F 14 dX9_free_69 (by decide) ?_
        refine Go.sub (lv' := [(0, .ref (am 0)), (1, .int (x1 + (0 : Int32))), (2, .int x2), (3, .int (x3 + 1))]) [2, 1, 3, 0] rfl ?_
        exact ih (x1 + (0 : Int32)) (x3 + 1) h
      · refine g_aload_n F dX9_free_44 rfl 0 rfl ?_
        refine g_get F (C := RX9) (T := TX9) (N := 36) (ci := 9) (v := .ref (am 12)) hi_X9_free_X9 0 0 11 dX9_free_45 rfl rfl (by decide) fl_X9_free_16 rfl ?_
        refine g_iconst F (v := (0 : Int32)) dX9_free_48 (by decide) ?_
        refine g_iload_n F dX9_free_49 rfl 2 rfl ?_
        refine g_iadd F dX9_free_50 ?_
        refine g_iaload F h 1 0 dX9_free_51 rfl (fun h => ?_)
        refine g_iload_n F dX9_free_52 rfl 3 rfl ?_
        obtain ⟨r1, hr1, h⟩ := bnd h
        refine g_cS F [.int (m_s (((0 : Int32) + x2)).toNatClampNeg), .int x3] (ok_X9_has (gl G) (gD G) cy (m_s (((0 : Int32) + x2)).toNatClampNeg) x3 r1 hr1) dX9_free_53 gX9_free_X9_has rfl cd_X9_has (by decide) rfl (Nat.le_of_ble_eq_true rfl) [] (by decide) rfl rfl (sg' := [(sMod cy am Mm), (sI cy (am 12) 24 m_s)]) (st' := [.int r1, .int x1]) rfl rfl ?_
        refine g_if_ne F 63 h dX9_free_56 (by decide) (fun h => ?_) (fun h => ?_)
        · refine g_iconst F (v := (0 : Int32)) dX9_free_63 (by decide) ?_
          refine g_iadd F dX9_free_64 ?_
          refine g_istore_n F (lv' := [(1, .int (x1 + (0 : Int32))), (0, .ref (am 0)), (2, .int x2), (3, .int x3)]) dX9_free_65 rfl (by decide) rfl ?_
          refine g_iinc F (v := (x3 + 1)) (lv' := [(3, .int (x3 + 1)), (1, .int (x1 + (0 : Int32))), (0, .ref (am 0)), (2, .int x2)]) dX9_free_66 3 rfl rfl (by decide) rfl ?_
          refine g_goto F 14 dX9_free_69 (by decide) ?_
          refine Go.sub (lv' := [(0, .ref (am 0)), (1, .int (x1 + (0 : Int32))), (2, .int x2), (3, .int (x3 + 1))]) [2, 1, 3, 0] rfl ?_
          exact ih (x1 + (0 : Int32)) (x3 + 1) h
        · refine g_iconst F (v := (1 : Int32)) dX9_free_59 (by decide) ?_
          refine g_goto F 64 dX9_free_60 (by decide) ?_
          refine g_iadd F dX9_free_64 ?_
          refine g_istore_n F (lv' := [(1, .int (x1 + (1 : Int32))), (0, .ref (am 0)), (2, .int x2), (3, .int x3)]) dX9_free_65 rfl (by decide) rfl ?_
          refine g_iinc F (v := (x3 + 1)) (lv' := [(3, .int (x3 + 1)), (1, .int (x1 + (1 : Int32))), (0, .ref (am 0)), (2, .int x2)]) dX9_free_66 3 rfl rfl (by decide) rfl ?_
          refine g_goto F 14 dX9_free_69 (by decide) ?_
          refine Go.sub (lv' := [(0, .ref (am 0)), (1, .int (x1 + (1 : Int32))), (2, .int x2), (3, .int (x3 + 1))]) [2, 1, 3, 0] rfl ?_
          exact ih (x1 + (1 : Int32)) (x3 + 1) h
set_option maxHeartbeats 4000000 in
set_option maxRecDepth 100000 in
theorem k_X9_free_4_ok {G : GX} {cy : Nat → ClassId} (am : Nat → Nat)   (Mm : ModS) (m_s : (Nat → Int32)) {out : Int32} (F : Fx G cX9_free wsX9_free RX9 cy 4 (rm_X9_free)) (Rq : Rx G "free" (some .int) (some (.int out)) (fun z => z = [(sMod cy am Mm), (sI cy (am 12) 24 m_s)]) 0 0) (ke : Int32 → Option (Int32)) (hke : ∀ (x1 : Int32) , ke x1 = some out → Go G 0 0 78 [(1, .int x1)] [] [(sMod cy am Mm), (sI cy (am 12) 24 m_s)]) : ∀ (n : Nat) (x1 : Int32) (x2 : Int32) , k_X9_free_4 Mm m_s ke n x1 x2 = some out → Go G 0 0 4 [(0, .ref (am 0)), (1, .int x1), (2, .int x2)] [] [(sMod cy am Mm), (sI cy (am 12) 24 m_s)] := by
  intro n
  induction n with
  | zero =>
    intro x1 x2 h
    exact nosome h
  | succ n ih =>
    intro x1 x2 h
    rw [k_X9_free_4.eq_2] at h
    refine g_iload_n F dX9_free_4 rfl 2 rfl ?_
    refine g_aload_n F dX9_free_5 rfl 0 rfl ?_
    refine g_get F (C := RX9) (T := TX9) (N := 36) (ci := 9) (v := .int (Mm 8)) hi_X9_free_X9 0 0 8 dX9_free_6 rfl rfl (by decide) fl_X9_free_145 rfl ?_
    refine g_icmp_ge F 78 h dX9_free_9 (by decide) (fun h => ?_) (fun h => ?_)
    · refine Go.sub (lv' := [(1, .int x1)]) [1] rfl ?_
      exact hke x1 h
    · refine g_iconst F (v := (0 : Int32)) dX9_free_12 (by decide) ?_
      refine g_istore_n F (lv' := [(3, .int (0 : Int32)), (0, .ref (am 0)), (1, .int x1), (2, .int x2)]) dX9_free_13 rfl (by decide) rfl ?_
      refine Go.sub (lv' := [(0, .ref (am 0)), (1, .int x1), (2, .int x2), (3, .int (0 : Int32))]) [1, 2, 3, 0] rfl ?_
      refine k_X9_free_14_ok am x2 Mm m_s F Rq _ (fun x1_2 h => ?_) _ x1 (0 : Int32) h
      refine g_iinc F (v := (x2 + 1)) (lv' := [(2, .int (x2 + 1)), (0, .ref (am 0)), (1, .int x1_2)]) dX9_free_72 2 rfl rfl (by decide) rfl ?_
      refine g_goto F 4 dX9_free_75 (by decide) ?_
      refine Go.sub (lv' := [(0, .ref (am 0)), (1, .int x1_2), (2, .int (x2 + 1))]) [1, 2, 0] rfl ?_
      exact ih x1_2 (x2 + 1) h
set_option maxHeartbeats 4000000 in
set_option maxRecDepth 100000 in
theorem ok_X9_free (l : Launch) (D : va_G) (cy : Nat → ClassId) (am : Nat → Nat)  (Mm : ModS) (m_s : (Nat → Int32))  (out : Int32) (h : f_X9_free Mm m_s = some out) : OK l D cy yX9_free wsX9_free rm_X9_free [.ref (am 0)] [(sMod cy am Mm), (sI cy (am 12) 24 m_s)] (some (.int out)) [(sMod cy am Mm), (sI cy (am 12) 24 m_s)] := by
  refine OKx.of (cc := cX9_free) (maxL := 4) (ret := (some .int)) (by decide) rfl (Nat.le_of_ble_eq_true rfl) (fun G F Rq => ?_)
  show Go G 0 0 0 [(0, .ref (am 0))] [] [(sMod cy am Mm), (sI cy (am 12) 24 m_s)]
  replace F : Fx G cX9_free wsX9_free RX9 cy 4 (rm_X9_free) := F
  replace Rq : Rx G "free" (some .int) (some (.int out)) (fun z => z = [(sMod cy am Mm), (sI cy (am 12) 24 m_s)]) 0 0 := Rq
  unfold f_X9_free at h
  refine g_iconst F (v := (0 : Int32)) dX9_free_0 (by decide) ?_
  refine g_istore_n F (lv' := [(1, .int (0 : Int32)), (0, .ref (am 0))]) dX9_free_1 rfl (by decide) rfl ?_
  refine g_iconst F (v := (0 : Int32)) dX9_free_2 (by decide) ?_
  refine g_istore_n F (lv' := [(2, .int (0 : Int32)), (1, .int (0 : Int32)), (0, .ref (am 0))]) dX9_free_3 rfl (by decide) rfl ?_
  refine Go.sub (lv' := [(0, .ref (am 0)), (1, .int (0 : Int32)), (2, .int (0 : Int32))]) [2, 1, 0] rfl ?_
  refine k_X9_free_4_ok am Mm m_s F Rq _ (fun x1_3 h => ?_) _ (0 : Int32) (0 : Int32) h
  refine g_iload_n F dX9_free_78 rfl 0 rfl ?_
  obtain rfl := Option.some.inj h
  exact g_iret F Rq rfl dX9_free_79
theorem hi_X9_most_X9 : ∀ w ∈ u_ws RX9 TX9 36, w ∈ wsX9_most := by decide +kernel
theorem fl_X9_most_145 : Cond.fieldLink RX9 145 "ArcOrderModel" "items" "I" ∈ wsX9_most := by decide +kernel
theorem fl_X9_most_16 : Cond.fieldLink RX9 16 "ArcOrderModel" "s" "[I" ∈ wsX9_most := by decide +kernel
theorem fl_X9_most_126 : Cond.fieldLink RX9 126 "ArcOrderModel" "closes" "Z" ∈ wsX9_most := by decide +kernel
abbrev rm_X9_most : Room := { frames := 3, cells := 0, slots := 0, locals := 72 }
set_option maxHeartbeats 4000000 in
set_option maxRecDepth 100000 in
theorem k_X9_most_18_ok {G : GX} {cy : Nat → ClassId} (am : Nat → Nat)  (x3 : Int32) (m_s : (Nat → Int32)) {out : Int32 × ModS × (Nat → Int32) × (Nat → Int32) × (Nat → Int32)} (F : Fx G cX9_most wsX9_most RX9 cy 6 (rm_X9_most)) (Rq : Rx G "most" (some .int) (some (.int out.1)) (fun z => z = [(sMod cy am out.2.1), (sI cy (am 12) 24 m_s), (sI cy (am 13) 24 out.2.2.1), (sI cy (am 33) 12 out.2.2.2.1), (sI cy (am 34) 24 out.2.2.2.2)]) 0 0) (ke : Int32 → Int32 → ModS → (Nat → Int32) → (Nat → Int32) → (Nat → Int32) → Option (Int32 × ModS × (Nat → Int32) × (Nat → Int32) × (Nat → Int32))) (hke : ∀ (x1 : Int32) (x2 : Int32) (Mm : ModS) (m_w : (Nat → Int32)) (m_order : (Nat → Int32)) (m_tried : (Nat → Int32)), ke x1 x2 Mm m_w m_order m_tried = some out → Go G 0 0 91 [(0, .ref (am 0)), (1, .int x1), (2, .int x2), (3, .int x3)] [] [(sMod cy am Mm), (sI cy (am 12) 24 m_s), (sI cy (am 13) 24 m_w), (sI cy (am 33) 12 m_order), (sI cy (am 34) 24 m_tried)]) : ∀ (n : Nat) (x1 : Int32) (x2 : Int32) (x4 : Int32) (Mm : ModS) (m_w : (Nat → Int32)) (m_order : (Nat → Int32)) (m_tried : (Nat → Int32)), k_X9_most_18 x3 m_s ke n x1 x2 x4 Mm m_w m_order m_tried = some out → Go G 0 0 18 [(0, .ref (am 0)), (1, .int x1), (2, .int x2), (3, .int x3), (4, .int x4)] [] [(sMod cy am Mm), (sI cy (am 12) 24 m_s), (sI cy (am 13) 24 m_w), (sI cy (am 33) 12 m_order), (sI cy (am 34) 24 m_tried)] := by
  intro n
  induction n with
  | zero =>
    intro x1 x2 x4 Mm m_w m_order m_tried h
    exact nosome h
  | succ n ih =>
    intro x1 x2 x4 Mm m_w m_order m_tried h
    rw [k_X9_most_18.eq_2] at h
    refine g_iload F dX9_most_18 4 rfl ?_
    refine g_aload_n F dX9_most_20 rfl 0 rfl ?_
    refine g_get F (C := RX9) (T := TX9) (N := 36) (ci := 9) (v := .int (Mm 8)) hi_X9_most_X9 0 0 8 dX9_most_21 rfl rfl (by decide) fl_X9_most_145 rfl ?_
    refine g_icmp_ge F 91 h dX9_most_24 (by decide) (fun h => ?_) (fun h => ?_)
    · refine Go.sub (lv' := [(0, .ref (am 0)), (1, .int x1), (2, .int x2), (3, .int x3)]) [0, 1, 2, 3] rfl ?_
      exact hke x1 x2 Mm m_w m_order m_tried h
    · refine g_iload_n F dX9_most_27 rfl 3 rfl ?_
      refine g_iload F dX9_most_28 4 rfl ?_
      refine g_icmp_eq F 85 h dX9_most_30 (by decide) (fun h => ?_) (fun h => ?_)
      · refine g_iinc F (v := (x4 + 1)) (lv' := [(4, .int (x4 + 1)), (0, .ref (am 0)), (1, .int x1), (2, .int x2), (3, .int x3)]) dX9_most_85 4 rfl rfl (by decide) rfl ?_
        refine g_goto F 18 dX9_most_88 (by decide) ?_
        refine Go.sub (lv' := [(0, .ref (am 0)), (1, .int x1), (2, .int x2), (3, .int x3), (4, .int (x4 + 1))]) [1, 2, 3, 4, 0] rfl ?_
        exact ih x1 x2 (x4 + 1) Mm m_w m_order m_tried h
      · refine g_aload_n F dX9_most_33 rfl 0 rfl ?_
        refine g_get F (C := RX9) (T := TX9) (N := 36) (ci := 9) (v := .ref (am 12)) hi_X9_most_X9 0 0 11 dX9_most_34 rfl rfl (by decide) fl_X9_most_16 rfl ?_
        refine g_iconst F (v := (0 : Int32)) dX9_most_37 (by decide) ?_
        refine g_iload_n F dX9_most_38 rfl 3 rfl ?_
        refine g_iadd F dX9_most_39 ?_
        refine g_iaload F h 1 0 dX9_most_40 rfl (fun h => ?_)
        refine g_iload F dX9_most_41 4 rfl ?_
        obtain ⟨r1, hr1, h⟩ := bnd h
        refine g_cS F [.int (m_s (((0 : Int32) + x3)).toNatClampNeg), .int x4] (ok_X9_has (gl G) (gD G) cy (m_s (((0 : Int32) + x3)).toNatClampNeg) x4 r1 hr1) dX9_most_43 gX9_most_X9_has rfl cd_X9_has (by decide) rfl (Nat.le_of_ble_eq_true rfl) [] (by decide) rfl rfl (sg' := [(sMod cy am Mm), (sI cy (am 12) 24 m_s), (sI cy (am 13) 24 m_w), (sI cy (am 33) 12 m_order), (sI cy (am 34) 24 m_tried)]) (st' := [.int r1]) rfl rfl ?_
        refine g_if_ne F 85 h dX9_most_46 (by decide) (fun h => ?_) (fun h => ?_)
        · refine g_iinc F (v := (x4 + 1)) (lv' := [(4, .int (x4 + 1)), (0, .ref (am 0)), (1, .int x1), (2, .int x2), (3, .int x3)]) dX9_most_85 4 rfl rfl (by decide) rfl ?_
          refine g_goto F 18 dX9_most_88 (by decide) ?_
          refine Go.sub (lv' := [(0, .ref (am 0)), (1, .int x1), (2, .int x2), (3, .int x3), (4, .int (x4 + 1))]) [1, 2, 3, 4, 0] rfl ?_
          exact ih x1 x2 (x4 + 1) Mm m_w m_order m_tried h
        · refine g_aload_n F dX9_most_49 rfl 0 rfl ?_
          refine g_iload_n F dX9_most_50 rfl 3 rfl ?_
          refine g_iload F dX9_most_51 4 rfl ?_
          obtain ⟨r2, hr2, h⟩ := bnd h
          refine g_cV F [.int x3, .int x4] 0 0 (ok_X9_movedBy (gl G) (gD G) cy am Mm m_s m_w m_order m_tried x3 x4 r2 hr2) dX9_most_53 rfl rfl gX9_most_X9_movedBy rfl ⟨rfl, cd_X9_movedBy⟩ (by decide) rfl (Nat.le_of_ble_eq_true rfl) [0, 1, 2, 3, 4] (by decide) rfl rfl (sg' := [(sMod cy am r2.2.1), (sI cy (am 12) 24 m_s), (sI cy (am 13) 24 r2.2.2.1), (sI cy (am 33) 12 r2.2.2.2.1), (sI cy (am 34) 24 r2.2.2.2.2)]) (st' := [.int r2.1]) rfl rfl ?_
          obtain ⟨r3, hr3, h⟩ := bnd h
          refine g_cS F [.int r2.1] (ok_X9_ones (gl G) (gD G) cy r2.1 r3 hr3) dX9_most_56 gX9_most_X9_ones rfl cd_X9_ones (by decide) rfl (Nat.le_of_ble_eq_true rfl) [] (by decide) rfl rfl (sg' := [(sMod cy am r2.2.1), (sI cy (am 12) 24 m_s), (sI cy (am 13) 24 r2.2.2.1), (sI cy (am 33) 12 r2.2.2.2.1), (sI cy (am 34) 24 r2.2.2.2.2)]) (st' := [.int r3]) rfl rfl ?_
          refine g_istore F (lv' := [(5, .int r3), (0, .ref (am 0)), (1, .int x1), (2, .int x2), (3, .int x3), (4, .int x4)]) dX9_most_59 (by decide) rfl ?_
          refine g_aload_n F dX9_most_61 rfl 1 rfl ?_
          refine g_get F (C := RX9) (T := TX9) (N := 36) (ci := 9) (v := .int (r2.2.1 28)) hi_X9_most_X9 0 0 28 dX9_most_62 rfl rfl (by decide) fl_X9_most_126 rfl ?_
          refine g_if_ne F 85 h dX9_most_65 (by decide) (fun h => ?_) (fun h => ?_)
          · refine g_iinc F (v := (x4 + 1)) (lv' := [(4, .int (x4 + 1)), (5, .int r3), (0, .ref (am 0)), (1, .int x1), (2, .int x2), (3, .int x3)]) dX9_most_85 5 rfl rfl (by decide) rfl ?_
            refine g_goto F 18 dX9_most_88 (by decide) ?_
            refine Go.sub (lv' := [(0, .ref (am 0)), (1, .int x1), (2, .int x2), (3, .int x3), (4, .int (x4 + 1))]) [2, 3, 4, 5, 0] rfl ?_
            exact ih x1 x2 (x4 + 1) r2.2.1 r2.2.2.1 r2.2.2.2.1 r2.2.2.2.2 h
          · refine g_iload F dX9_most_68 0 rfl ?_
            refine g_iload_n F dX9_most_70 rfl 3 rfl ?_
            refine g_icmp_le F 85 h dX9_most_71 (by decide) (fun h => ?_) (fun h => ?_)
            · refine g_iinc F (v := (x4 + 1)) (lv' := [(4, .int (x4 + 1)), (5, .int r3), (0, .ref (am 0)), (1, .int x1), (2, .int x2), (3, .int x3)]) dX9_most_85 5 rfl rfl (by decide) rfl ?_
              refine g_goto F 18 dX9_most_88 (by decide) ?_
              refine Go.sub (lv' := [(0, .ref (am 0)), (1, .int x1), (2, .int x2), (3, .int x3), (4, .int (x4 + 1))]) [2, 3, 4, 5, 0] rfl ?_
              exact ih x1 x2 (x4 + 1) r2.2.1 r2.2.2.1 r2.2.2.2.1 r2.2.2.2.2 h
            · refine g_bipush F (v := (16 : Int32)) dX9_most_74 (by decide) ?_
              refine g_iload_n F dX9_most_76 rfl 4 rfl ?_
              refine g_imul F dX9_most_77 ?_
              refine g_iload F dX9_most_78 5 rfl ?_
              refine g_iadd F dX9_most_80 ?_
              refine g_istore_n F (lv' := [(1, .int (((16 : Int32) * x3) + x4)), (5, .int r3), (0, .ref (am 0)), (2, .int x2), (3, .int x3), (4, .int x4)]) dX9_most_81 rfl (by decide) rfl ?_
              refine g_iload F dX9_most_82 1 rfl ?_
              refine g_istore_n F (lv' := [(2, .int r3), (1, .int (((16 : Int32) * x3) + x4)), (5, .int r3), (0, .ref (am 0)), (3, .int x3), (4, .int x4)]) dX9_most_84 rfl (by decide) rfl ?_
              refine g_iinc F (v := (x4 + 1)) (lv' := [(4, .int (x4 + 1)), (2, .int r3), (1, .int (((16 : Int32) * x3) + x4)), (5, .int r3), (0, .ref (am 0)), (3, .int x3)]) dX9_most_85 5 rfl rfl (by decide) rfl ?_
              refine g_goto F 18 dX9_most_88 (by decide) ?_
              refine Go.sub (lv' := [(0, .ref (am 0)), (1, .int (((16 : Int32) * x3) + x4)), (2, .int r3), (3, .int x3), (4, .int (x4 + 1))]) [4, 2, 1, 5, 0] rfl ?_
              exact ih (((16 : Int32) * x3) + x4) r3 (x4 + 1) r2.2.1 r2.2.2.1 r2.2.2.2.1 r2.2.2.2.2 h
set_option maxHeartbeats 4000000 in
set_option maxRecDepth 100000 in
theorem k_X9_most_7_ok {G : GX} {cy : Nat → ClassId} (am : Nat → Nat)   (m_s : (Nat → Int32)) {out : Int32 × ModS × (Nat → Int32) × (Nat → Int32) × (Nat → Int32)} (F : Fx G cX9_most wsX9_most RX9 cy 6 (rm_X9_most)) (Rq : Rx G "most" (some .int) (some (.int out.1)) (fun z => z = [(sMod cy am out.2.1), (sI cy (am 12) 24 m_s), (sI cy (am 13) 24 out.2.2.1), (sI cy (am 33) 12 out.2.2.2.1), (sI cy (am 34) 24 out.2.2.2.2)]) 0 0) (ke : Int32 → ModS → (Nat → Int32) → (Nat → Int32) → (Nat → Int32) → Option (Int32 × ModS × (Nat → Int32) × (Nat → Int32) × (Nat → Int32))) (hke : ∀ (x1 : Int32) (Mm : ModS) (m_w : (Nat → Int32)) (m_order : (Nat → Int32)) (m_tried : (Nat → Int32)), ke x1 Mm m_w m_order m_tried = some out → Go G 0 0 97 [(1, .int x1)] [] [(sMod cy am Mm), (sI cy (am 12) 24 m_s), (sI cy (am 13) 24 m_w), (sI cy (am 33) 12 m_order), (sI cy (am 34) 24 m_tried)]) : ∀ (n : Nat) (x1 : Int32) (x2 : Int32) (x3 : Int32) (Mm : ModS) (m_w : (Nat → Int32)) (m_order : (Nat → Int32)) (m_tried : (Nat → Int32)), k_X9_most_7 m_s ke n x1 x2 x3 Mm m_w m_order m_tried = some out → Go G 0 0 7 [(0, .ref (am 0)), (1, .int x1), (2, .int x2), (3, .int x3)] [] [(sMod cy am Mm), (sI cy (am 12) 24 m_s), (sI cy (am 13) 24 m_w), (sI cy (am 33) 12 m_order), (sI cy (am 34) 24 m_tried)] := by
  intro n
  induction n with
  | zero =>
    intro x1 x2 x3 Mm m_w m_order m_tried h
    exact nosome h
  | succ n ih =>
    intro x1 x2 x3 Mm m_w m_order m_tried h
    rw [k_X9_most_7.eq_2] at h
    refine g_iload_n F dX9_most_7 rfl 3 rfl ?_
    refine g_aload_n F dX9_most_8 rfl 0 rfl ?_
    refine g_get F (C := RX9) (T := TX9) (N := 36) (ci := 9) (v := .int (Mm 8)) hi_X9_most_X9 0 0 8 dX9_most_9 rfl rfl (by decide) fl_X9_most_145 rfl ?_
    refine g_icmp_ge F 97 h dX9_most_12 (by decide) (fun h => ?_) (fun h => ?_)
    · refine Go.sub (lv' := [(1, .int x1)]) [1] rfl ?_
      exact hke x1 Mm m_w m_order m_tried h
    · refine g_iconst F (v := (0 : Int32)) dX9_most_15 (by decide) ?_
      refine g_istore F (lv' := [(4, .int (0 : Int32)), (0, .ref (am 0)), (1, .int x1), (2, .int x2), (3, .int x3)]) dX9_most_16 (by decide) rfl ?_
      refine Go.sub (lv' := [(0, .ref (am 0)), (1, .int x1), (2, .int x2), (3, .int x3), (4, .int (0 : Int32))]) [1, 2, 3, 4, 0] rfl ?_
      refine k_X9_most_18_ok am x3 m_s F Rq _ (fun x1_4 x2_4 Mm_4 m_w_4 m_order_4 m_tried_4 h => ?_) _ x1 x2 (0 : Int32) Mm m_w m_order m_tried h
      refine g_iinc F (v := (x3 + 1)) (lv' := [(3, .int (x3 + 1)), (0, .ref (am 0)), (1, .int x1_4), (2, .int x2_4)]) dX9_most_91 3 rfl rfl (by decide) rfl ?_
      refine g_goto F 7 dX9_most_94 (by decide) ?_
      refine Go.sub (lv' := [(0, .ref (am 0)), (1, .int x1_4), (2, .int x2_4), (3, .int (x3 + 1))]) [1, 2, 3, 0] rfl ?_
      exact ih x1_4 x2_4 (x3 + 1) Mm_4 m_w_4 m_order_4 m_tried_4 h
set_option maxHeartbeats 4000000 in
set_option maxRecDepth 100000 in
theorem ok_X9_most (l : Launch) (D : va_G) (cy : Nat → ClassId) (am : Nat → Nat)  (Mm : ModS) (m_s : (Nat → Int32)) (m_w : (Nat → Int32)) (m_order : (Nat → Int32)) (m_tried : (Nat → Int32))  (out : Int32 × ModS × (Nat → Int32) × (Nat → Int32) × (Nat → Int32)) (h : f_X9_most Mm m_s m_w m_order m_tried = some out) : OK l D cy yX9_most wsX9_most rm_X9_most [.ref (am 0)] [(sMod cy am Mm), (sI cy (am 12) 24 m_s), (sI cy (am 13) 24 m_w), (sI cy (am 33) 12 m_order), (sI cy (am 34) 24 m_tried)] (some (.int out.1)) [(sMod cy am out.2.1), (sI cy (am 12) 24 m_s), (sI cy (am 13) 24 out.2.2.1), (sI cy (am 33) 12 out.2.2.2.1), (sI cy (am 34) 24 out.2.2.2.2)] := by
  refine OKx.of (cc := cX9_most) (maxL := 6) (ret := (some .int)) (by decide) rfl (Nat.le_of_ble_eq_true rfl) (fun G F Rq => ?_)
  show Go G 0 0 0 [(0, .ref (am 0))] [] [(sMod cy am Mm), (sI cy (am 12) 24 m_s), (sI cy (am 13) 24 m_w), (sI cy (am 33) 12 m_order), (sI cy (am 34) 24 m_tried)]
  replace F : Fx G cX9_most wsX9_most RX9 cy 6 (rm_X9_most) := F
  replace Rq : Rx G "most" (some .int) (some (.int out.1)) (fun z => z = [(sMod cy am out.2.1), (sI cy (am 12) 24 m_s), (sI cy (am 13) 24 out.2.2.1), (sI cy (am 33) 12 out.2.2.2.1), (sI cy (am 34) 24 out.2.2.2.2)]) 0 0 := Rq
  unfold f_X9_most at h
  refine g_bipush F (v := (-9 : Int32)) dX9_most_0 (by decide) ?_
  refine g_istore_n F (lv' := [(1, .int (-9 : Int32)), (0, .ref (am 0))]) dX9_most_2 rfl (by decide) rfl ?_
  refine g_iconst F (v := (-1 : Int32)) dX9_most_3 (by decide) ?_
  refine g_istore_n F (lv' := [(2, .int (-1 : Int32)), (1, .int (-9 : Int32)), (0, .ref (am 0))]) dX9_most_4 rfl (by decide) rfl ?_
  refine g_iconst F (v := (0 : Int32)) dX9_most_5 (by decide) ?_
  refine g_istore_n F (lv' := [(3, .int (0 : Int32)), (2, .int (-1 : Int32)), (1, .int (-9 : Int32)), (0, .ref (am 0))]) dX9_most_6 rfl (by decide) rfl ?_
  refine Go.sub (lv' := [(0, .ref (am 0)), (1, .int (-9 : Int32)), (2, .int (-1 : Int32)), (3, .int (0 : Int32))]) [3, 2, 1, 0] rfl ?_
  refine k_X9_most_7_ok am m_s F Rq _ (fun x1_5 Mm_5 m_w_5 m_order_5 m_tried_5 h => ?_) _ (-9 : Int32) (-1 : Int32) (0 : Int32) Mm m_w m_order m_tried h
  refine g_iload_n F dX9_most_97 rfl 0 rfl ?_
  obtain rfl := Option.some.inj h
  exact g_iret F Rq rfl dX9_most_98
theorem hi_X9_chain_X9 : ∀ w ∈ u_ws RX9 TX9 36, w ∈ wsX9_chain := by decide +kernel
theorem fl_X9_chain_145 : Cond.fieldLink RX9 145 "ArcOrderModel" "items" "I" ∈ wsX9_chain := by decide +kernel
theorem fl_X9_chain_50 : Cond.fieldLink RX9 50 "ArcOrderModel" "far" "[I" ∈ wsX9_chain := by decide +kernel
theorem fl_X9_chain_16 : Cond.fieldLink RX9 16 "ArcOrderModel" "s" "[I" ∈ wsX9_chain := by decide +kernel
abbrev rm_X9_chain : Room := { frames := 1, cells := 0, slots := 0, locals := 23 }
set_option maxHeartbeats 4000000 in
set_option maxRecDepth 100000 in
theorem k_X9_chain_4_ok {G : GX} {cy : Nat → ClassId} (am : Nat → Nat)  (x1 : Int32) (Mm : ModS) (m_s : (Nat → Int32)) {out : Int32 × (Nat → Int32)} (F : Fx G cX9_chain wsX9_chain RX9 cy 5 (rm_X9_chain)) (Rq : Rx G "chain" (some .int) (some (.int out.1)) (fun z => z = [(sMod cy am Mm), (sI cy (am 12) 24 m_s), (sI cy (am 30) 12 out.2)]) 0 0) (ke : (Nat → Int32) → Option (Int32 × (Nat → Int32))) (hke : ∀  (m_far : (Nat → Int32)), ke m_far = some out → Go G 0 0 25 [(0, .ref (am 0)), (1, .int x1)] [] [(sMod cy am Mm), (sI cy (am 12) 24 m_s), (sI cy (am 30) 12 m_far)]) : ∀ (n : Nat) (x2 : Int32) (m_far : (Nat → Int32)), k_X9_chain_4 x1 Mm m_s ke n x2 m_far = some out → Go G 0 0 4 [(0, .ref (am 0)), (1, .int x1), (2, .int x2)] [] [(sMod cy am Mm), (sI cy (am 12) 24 m_s), (sI cy (am 30) 12 m_far)] := by
  intro n
  induction n with
  | zero =>
    intro x2 m_far h
    exact nosome h
  | succ n ih =>
    intro x2 m_far h
    rw [k_X9_chain_4.eq_2] at h
    refine g_iload_n F dX9_chain_4 rfl 2 rfl ?_
    refine g_aload_n F dX9_chain_5 rfl 0 rfl ?_
    refine g_get F (C := RX9) (T := TX9) (N := 36) (ci := 9) (v := .int (Mm 8)) hi_X9_chain_X9 0 0 8 dX9_chain_6 rfl rfl (by decide) fl_X9_chain_145 rfl ?_
    refine g_icmp_ge F 25 h dX9_chain_9 (by decide) (fun h => ?_) (fun h => ?_)
    · refine Go.sub (lv' := [(0, .ref (am 0)), (1, .int x1)]) [0, 1] rfl ?_
      exact hke m_far h
    · refine g_aload_n F dX9_chain_12 rfl 0 rfl ?_
      refine g_get F (C := RX9) (T := TX9) (N := 36) (ci := 9) (v := .ref (am 30)) hi_X9_chain_X9 0 0 29 dX9_chain_13 rfl rfl (by decide) fl_X9_chain_50 rfl ?_
      refine g_iload_n F dX9_chain_16 rfl 2 rfl ?_
      refine g_iconst F (v := (1 : Int32)) dX9_chain_17 (by decide) ?_
      refine g_iastore F h (sg' := [(sMod cy am Mm), (sI cy (am 12) 24 m_s), (sI cy (am 30) 12 (upd m_far (x2).toNatClampNeg (1 : Int32)))]) 2 0 dX9_chain_18 rfl rfl (fun h => ?_)
      refine g_iinc F (v := (x2 + 1)) (lv' := [(2, .int (x2 + 1)), (0, .ref (am 0)), (1, .int x1)]) dX9_chain_19 2 rfl rfl (by decide) rfl ?_
      refine g_goto F 4 dX9_chain_22 (by decide) ?_
      refine Go.sub (lv' := [(0, .ref (am 0)), (1, .int x1), (2, .int (x2 + 1))]) [1, 2, 0] rfl ?_
      exact ih (x2 + 1) (upd m_far (x2).toNatClampNeg (1 : Int32)) h
set_option maxHeartbeats 4000000 in
set_option maxRecDepth 100000 in
theorem k_X9_chain_52_ok {G : GX} {cy : Nat → ClassId} (am : Nat → Nat)  (x1 : Int32) (x2 : Int32) (x3 : Int32) (Mm : ModS) (m_s : (Nat → Int32)) {out : Int32 × (Nat → Int32)} (F : Fx G cX9_chain wsX9_chain RX9 cy 5 (rm_X9_chain)) (Rq : Rx G "chain" (some .int) (some (.int out.1)) (fun z => z = [(sMod cy am Mm), (sI cy (am 12) 24 m_s), (sI cy (am 30) 12 out.2)]) 0 0) (ke : (Nat → Int32) → Option (Int32 × (Nat → Int32))) (hke : ∀  (m_far : (Nat → Int32)), ke m_far = some out → Go G 0 0 125 [(0, .ref (am 0)), (1, .int x1), (2, .int x2), (3, .int x3)] [] [(sMod cy am Mm), (sI cy (am 12) 24 m_s), (sI cy (am 30) 12 m_far)]) : ∀ (n : Nat) (x4 : Int32) (m_far : (Nat → Int32)), k_X9_chain_52 x1 x2 x3 Mm m_s ke n x4 m_far = some out → Go G 0 0 52 [(0, .ref (am 0)), (1, .int x1), (2, .int x2), (3, .int x3), (4, .int x4)] [] [(sMod cy am Mm), (sI cy (am 12) 24 m_s), (sI cy (am 30) 12 m_far)] := by
  intro n
  induction n with
  | zero =>
    intro x4 m_far h
    exact nosome h
  | succ n ih =>
    intro x4 m_far h
    rw [k_X9_chain_52.eq_2] at h
    refine g_iload F dX9_chain_52 4 rfl ?_
    refine g_aload_n F dX9_chain_54 rfl 0 rfl ?_
    refine g_get F (C := RX9) (T := TX9) (N := 36) (ci := 9) (v := .int (Mm 8)) hi_X9_chain_X9 0 0 8 dX9_chain_55 rfl rfl (by decide) fl_X9_chain_145 rfl ?_
    refine g_icmp_ge F 125 h dX9_chain_58 (by decide) (fun h => ?_) (fun h => ?_)
    · refine Go.sub (lv' := [(0, .ref (am 0)), (1, .int x1), (2, .int x2), (3, .int x3)]) [0, 1, 2, 3] rfl ?_
      exact hke m_far h
    · refine g_aload_n F dX9_chain_61 rfl 0 rfl ?_
      refine g_get F (C := RX9) (T := TX9) (N := 36) (ci := 9) (v := .ref (am 30)) hi_X9_chain_X9 0 0 29 dX9_chain_62 rfl rfl (by decide) fl_X9_chain_50 rfl ?_
      refine g_iload_n F dX9_chain_65 rfl 3 rfl ?_
      refine g_aload_n F dX9_chain_66 rfl 0 rfl ?_
      refine g_get F (C := RX9) (T := TX9) (N := 36) (ci := 9) (v := .ref (am 12)) hi_X9_chain_X9 0 0 11 dX9_chain_67 rfl rfl (by decide) fl_X9_chain_16 rfl ?_
      refine g_iconst F (v := (0 : Int32)) dX9_chain_70 (by decide) ?_
      refine g_iload_n F dX9_chain_71 rfl 3 rfl ?_
      refine g_iadd F dX9_chain_72 ?_
      refine g_iaload F h 1 0 dX9_chain_73 rfl (fun h => ?_)
      refine g_iload F dX9_chain_74 4 rfl ?_
      obtain ⟨r3, hr3, h⟩ := bnd h
      refine g_cS F [.int (m_s (((0 : Int32) + x3)).toNatClampNeg), .int x4] (ok_X9_has (gl G) (gD G) cy (m_s (((0 : Int32) + x3)).toNatClampNeg) x4 r3 hr3) dX9_chain_76 gX9_chain_X9_has rfl cd_X9_has (by decide) rfl (Nat.le_of_ble_eq_true rfl) [] (by decide) rfl rfl (sg' := [(sMod cy am Mm), (sI cy (am 12) 24 m_s), (sI cy (am 30) 12 m_far)]) (st' := [.int r3, .int x3, .ref (am 30)]) rfl rfl ?_
      refine g_if_eq F 112 h dX9_chain_79 (by decide) (fun h => ?_) (fun h => ?_)
      · refine g_aload_n F dX9_chain_112 rfl 0 rfl ?_
        refine g_get F (C := RX9) (T := TX9) (N := 36) (ci := 9) (v := .ref (am 30)) hi_X9_chain_X9 0 0 29 dX9_chain_113 rfl rfl (by decide) fl_X9_chain_50 rfl ?_
        refine g_iload_n F dX9_chain_116 rfl 3 rfl ?_
        refine g_iaload F h 2 0 dX9_chain_117 rfl (fun h => ?_)
        refine g_iastore F h (sg' := [(sMod cy am Mm), (sI cy (am 12) 24 m_s), (sI cy (am 30) 12 (upd m_far (x3).toNatClampNeg (m_far (x3).toNatClampNeg)))]) 2 0 dX9_chain_118 rfl rfl (fun h => ?_)
        refine g_iinc F (v := (x4 + 1)) (lv' := [(4, .int (x4 + 1)), (0, .ref (am 0)), (1, .int x1), (2, .int x2), (3, .int x3)]) dX9_chain_119 4 rfl rfl (by decide) rfl ?_
        refine g_goto F 52 dX9_chain_122 (by decide) ?_
        refine Go.sub (lv' := [(0, .ref (am 0)), (1, .int x1), (2, .int x2), (3, .int x3), (4, .int (x4 + 1))]) [1, 2, 3, 4, 0] rfl ?_
        exact ih (x4 + 1) (upd m_far (x3).toNatClampNeg (m_far (x3).toNatClampNeg)) h
      · refine g_aload_n F dX9_chain_82 rfl 0 rfl ?_
        refine g_get F (C := RX9) (T := TX9) (N := 36) (ci := 9) (v := .ref (am 30)) hi_X9_chain_X9 0 0 29 dX9_chain_83 rfl rfl (by decide) fl_X9_chain_50 rfl ?_
        refine g_iload F dX9_chain_86 4 rfl ?_
        refine g_iaload F h 2 0 dX9_chain_88 rfl (fun h => ?_)
        refine g_iconst F (v := (1 : Int32)) dX9_chain_89 (by decide) ?_
        refine g_iadd F dX9_chain_90 ?_
        refine g_aload_n F dX9_chain_91 rfl 0 rfl ?_
        refine g_get F (C := RX9) (T := TX9) (N := 36) (ci := 9) (v := .ref (am 30)) hi_X9_chain_X9 0 0 29 dX9_chain_92 rfl rfl (by decide) fl_X9_chain_50 rfl ?_
        refine g_iload_n F dX9_chain_95 rfl 3 rfl ?_
        refine g_iaload F h 2 0 dX9_chain_96 rfl (fun h => ?_)
        refine g_icmp_le F 112 h dX9_chain_97 (by decide) (fun h => ?_) (fun h => ?_)
        · refine g_aload_n F dX9_chain_112 rfl 0 rfl ?_
          refine g_get F (C := RX9) (T := TX9) (N := 36) (ci := 9) (v := .ref (am 30)) hi_X9_chain_X9 0 0 29 dX9_chain_113 rfl rfl (by decide) fl_X9_chain_50 rfl ?_
          refine g_iload_n F dX9_chain_116 rfl 3 rfl ?_
          refine g_iaload F h 2 0 dX9_chain_117 rfl (fun h => ?_)
          refine g_iastore F h (sg' := [(sMod cy am Mm), (sI cy (am 12) 24 m_s), (sI cy (am 30) 12 (upd m_far (x3).toNatClampNeg (m_far (x3).toNatClampNeg)))]) 2 0 dX9_chain_118 rfl rfl (fun h => ?_)
          refine g_iinc F (v := (x4 + 1)) (lv' := [(4, .int (x4 + 1)), (0, .ref (am 0)), (1, .int x1), (2, .int x2), (3, .int x3)]) dX9_chain_119 4 rfl rfl (by decide) rfl ?_
          refine g_goto F 52 dX9_chain_122 (by decide) ?_
          refine Go.sub (lv' := [(0, .ref (am 0)), (1, .int x1), (2, .int x2), (3, .int x3), (4, .int (x4 + 1))]) [1, 2, 3, 4, 0] rfl ?_
          exact ih (x4 + 1) (upd m_far (x3).toNatClampNeg (m_far (x3).toNatClampNeg)) h
        · refine g_aload_n F dX9_chain_100 rfl 0 rfl ?_
          refine g_get F (C := RX9) (T := TX9) (N := 36) (ci := 9) (v := .ref (am 30)) hi_X9_chain_X9 0 0 29 dX9_chain_101 rfl rfl (by decide) fl_X9_chain_50 rfl ?_
          refine g_iload F dX9_chain_104 4 rfl ?_
          refine g_iaload F h 2 0 dX9_chain_106 rfl (fun h => ?_)
          refine g_iconst F (v := (1 : Int32)) dX9_chain_107 (by decide) ?_
          refine g_iadd F dX9_chain_108 ?_
          refine g_goto F 118 dX9_chain_109 (by decide) ?_
          refine g_iastore F h (sg' := [(sMod cy am Mm), (sI cy (am 12) 24 m_s), (sI cy (am 30) 12 (upd m_far (x3).toNatClampNeg ((m_far (x4).toNatClampNeg) + (1 : Int32))))]) 2 0 dX9_chain_118 rfl rfl (fun h => ?_)
          refine g_iinc F (v := (x4 + 1)) (lv' := [(4, .int (x4 + 1)), (0, .ref (am 0)), (1, .int x1), (2, .int x2), (3, .int x3)]) dX9_chain_119 4 rfl rfl (by decide) rfl ?_
          refine g_goto F 52 dX9_chain_122 (by decide) ?_
          refine Go.sub (lv' := [(0, .ref (am 0)), (1, .int x1), (2, .int x2), (3, .int x3), (4, .int (x4 + 1))]) [1, 2, 3, 4, 0] rfl ?_
          exact ih (x4 + 1) (upd m_far (x3).toNatClampNeg ((m_far (x4).toNatClampNeg) + (1 : Int32))) h
set_option maxHeartbeats 4000000 in
set_option maxRecDepth 100000 in
theorem k_X9_chain_32_ok {G : GX} {cy : Nat → ClassId} (am : Nat → Nat)   (Mm : ModS) (m_s : (Nat → Int32)) {out : Int32 × (Nat → Int32)} (F : Fx G cX9_chain wsX9_chain RX9 cy 5 (rm_X9_chain)) (Rq : Rx G "chain" (some .int) (some (.int out.1)) (fun z => z = [(sMod cy am Mm), (sI cy (am 12) 24 m_s), (sI cy (am 30) 12 out.2)]) 0 0) (ke : Int32 → (Nat → Int32) → Option (Int32 × (Nat → Int32))) (hke : ∀ (x1 : Int32) (m_far : (Nat → Int32)), ke x1 m_far = some out → Go G 0 0 152 [(1, .int x1)] [] [(sMod cy am Mm), (sI cy (am 12) 24 m_s), (sI cy (am 30) 12 m_far)]) : ∀ (n : Nat) (x1 : Int32) (x2 : Int32) (m_far : (Nat → Int32)), k_X9_chain_32 Mm m_s ke n x1 x2 m_far = some out → Go G 0 0 32 [(0, .ref (am 0)), (1, .int x1), (2, .int x2)] [] [(sMod cy am Mm), (sI cy (am 12) 24 m_s), (sI cy (am 30) 12 m_far)] := by
  intro n
  induction n with
  | zero =>
    intro x1 x2 m_far h
    exact nosome h
  | succ n ih =>
    intro x1 x2 m_far h
    rw [k_X9_chain_32.eq_2] at h
    refine g_iload_n F dX9_chain_32 rfl 2 rfl ?_
    refine g_if_lt F 152 h dX9_chain_33 (by decide) (fun h => ?_) (fun h => ?_)
    · refine Go.sub (lv' := [(1, .int x1)]) [1] rfl ?_
      exact hke x1 m_far h
    · refine g_aload_n F dX9_chain_36 rfl 0 rfl ?_
      refine g_get F (C := RX9) (T := TX9) (N := 36) (ci := 9) (v := .ref (am 12)) hi_X9_chain_X9 0 0 11 dX9_chain_37 rfl rfl (by decide) fl_X9_chain_16 rfl ?_
      refine g_aload_n F dX9_chain_40 rfl 0 rfl ?_
      refine g_get F (C := RX9) (T := TX9) (N := 36) (ci := 9) (v := .int (Mm 8)) hi_X9_chain_X9 0 0 8 dX9_chain_41 rfl rfl (by decide) fl_X9_chain_145 rfl ?_
      refine g_iload_n F dX9_chain_44 rfl 2 rfl ?_
      obtain ⟨r2, hr2, h⟩ := bnd h
      refine g_cS F [.ref (am 12), .int (Mm 8), .int x2] (ok_X9_itemAt (gl G) (gD G) cy (am 12) m_s (Mm 8) x2 r2 hr2) dX9_chain_45 gX9_chain_X9_itemAt rfl cd_X9_itemAt (by decide) rfl (Nat.le_of_ble_eq_true rfl) [1] (by decide) rfl rfl (sg' := [(sMod cy am Mm), (sI cy (am 12) 24 m_s), (sI cy (am 30) 12 m_far)]) (st' := [.int r2]) rfl rfl ?_
      refine g_istore_n F (lv' := [(3, .int r2), (0, .ref (am 0)), (1, .int x1), (2, .int x2)]) dX9_chain_48 rfl (by decide) rfl ?_
      refine g_iconst F (v := (0 : Int32)) dX9_chain_49 (by decide) ?_
      refine g_istore F (lv' := [(4, .int (0 : Int32)), (3, .int r2), (0, .ref (am 0)), (1, .int x1), (2, .int x2)]) dX9_chain_50 (by decide) rfl ?_
      refine Go.sub (lv' := [(0, .ref (am 0)), (1, .int x1), (2, .int x2), (3, .int r2), (4, .int (0 : Int32))]) [2, 3, 4, 1, 0] rfl ?_
      refine k_X9_chain_52_ok am x1 x2 r2 Mm m_s F Rq _ (fun m_far_4 h => ?_) _ (0 : Int32) m_far h
      refine g_aload_n F dX9_chain_125 rfl 0 rfl ?_
      refine g_get F (C := RX9) (T := TX9) (N := 36) (ci := 9) (v := .ref (am 30)) hi_X9_chain_X9 0 0 29 dX9_chain_126 rfl rfl (by decide) fl_X9_chain_50 rfl ?_
      refine g_iload_n F dX9_chain_129 rfl 3 rfl ?_
      refine g_iaload F h 2 0 dX9_chain_130 rfl (fun h => ?_)
      refine g_iload_n F dX9_chain_131 rfl 1 rfl ?_
      refine g_icmp_le F 144 h dX9_chain_132 (by decide) (fun h => ?_) (fun h => ?_)
      · refine g_iload_n F dX9_chain_144 rfl 1 rfl ?_
        refine g_istore_n F (lv' := [(1, .int x1), (0, .ref (am 0)), (2, .int x2), (3, .int r2)]) dX9_chain_145 rfl (by decide) rfl ?_
        refine g_iinc F (v := (x2 + (-1))) (lv' := [(2, .int (x2 + (-1))), (1, .int x1), (0, .ref (am 0)), (3, .int r2)]) dX9_chain_146 2 rfl rfl (by decide) rfl ?_
        refine g_goto F 32 dX9_chain_149 (by decide) ?_
        refine Go.sub (lv' := [(0, .ref (am 0)), (1, .int x1), (2, .int (x2 + (-1)))]) [2, 1, 0] rfl ?_
        exact ih x1 (x2 + (-1)) m_far_4 h
      · refine g_aload_n F dX9_chain_135 rfl 0 rfl ?_
        refine g_get F (C := RX9) (T := TX9) (N := 36) (ci := 9) (v := .ref (am 30)) hi_X9_chain_X9 0 0 29 dX9_chain_136 rfl rfl (by decide) fl_X9_chain_50 rfl ?_
        refine g_iload_n F dX9_chain_139 rfl 3 rfl ?_
        refine g_iaload F h 2 0 dX9_chain_140 rfl (fun h => ?_)
        refine g_goto F 145 dX9_chain_141 (by decide) ?_
        refine g_istore_n F (lv' := [(1, .int (m_far_4 (r2).toNatClampNeg)), (0, .ref (am 0)), (2, .int x2), (3, .int r2)]) dX9_chain_145 rfl (by decide) rfl ?_
        refine g_iinc F (v := (x2 + (-1))) (lv' := [(2, .int (x2 + (-1))), (1, .int (m_far_4 (r2).toNatClampNeg)), (0, .ref (am 0)), (3, .int r2)]) dX9_chain_146 2 rfl rfl (by decide) rfl ?_
        refine g_goto F 32 dX9_chain_149 (by decide) ?_
        refine Go.sub (lv' := [(0, .ref (am 0)), (1, .int (m_far_4 (r2).toNatClampNeg)), (2, .int (x2 + (-1)))]) [2, 1, 0] rfl ?_
        exact ih (m_far_4 (r2).toNatClampNeg) (x2 + (-1)) m_far_4 h
set_option maxHeartbeats 4000000 in
set_option maxRecDepth 100000 in
theorem ok_X9_chain (l : Launch) (D : va_G) (cy : Nat → ClassId) (am : Nat → Nat)  (Mm : ModS) (m_s : (Nat → Int32)) (m_far : (Nat → Int32))  (out : Int32 × (Nat → Int32)) (h : f_X9_chain Mm m_s m_far = some out) : OK l D cy yX9_chain wsX9_chain rm_X9_chain [.ref (am 0)] [(sMod cy am Mm), (sI cy (am 12) 24 m_s), (sI cy (am 30) 12 m_far)] (some (.int out.1)) [(sMod cy am Mm), (sI cy (am 12) 24 m_s), (sI cy (am 30) 12 out.2)] := by
  refine OKx.of (cc := cX9_chain) (maxL := 5) (ret := (some .int)) (by decide) rfl (Nat.le_of_ble_eq_true rfl) (fun G F Rq => ?_)
  show Go G 0 0 0 [(0, .ref (am 0))] [] [(sMod cy am Mm), (sI cy (am 12) 24 m_s), (sI cy (am 30) 12 m_far)]
  replace F : Fx G cX9_chain wsX9_chain RX9 cy 5 (rm_X9_chain) := F
  replace Rq : Rx G "chain" (some .int) (some (.int out.1)) (fun z => z = [(sMod cy am Mm), (sI cy (am 12) 24 m_s), (sI cy (am 30) 12 out.2)]) 0 0 := Rq
  unfold f_X9_chain at h
  refine g_iconst F (v := (0 : Int32)) dX9_chain_0 (by decide) ?_
  refine g_istore_n F (lv' := [(1, .int (0 : Int32)), (0, .ref (am 0))]) dX9_chain_1 rfl (by decide) rfl ?_
  refine g_iconst F (v := (0 : Int32)) dX9_chain_2 (by decide) ?_
  refine g_istore_n F (lv' := [(2, .int (0 : Int32)), (1, .int (0 : Int32)), (0, .ref (am 0))]) dX9_chain_3 rfl (by decide) rfl ?_
  refine Go.sub (lv' := [(0, .ref (am 0)), (1, .int (0 : Int32)), (2, .int (0 : Int32))]) [2, 1, 0] rfl ?_
  refine k_X9_chain_4_ok am (0 : Int32) Mm m_s F Rq _ (fun m_far_1 h => ?_) _ (0 : Int32) m_far h
  refine g_aload_n F dX9_chain_25 rfl 0 rfl ?_
  refine g_get F (C := RX9) (T := TX9) (N := 36) (ci := 9) (v := .int (Mm 8)) hi_X9_chain_X9 0 0 8 dX9_chain_26 rfl rfl (by decide) fl_X9_chain_145 rfl ?_
  refine g_iconst F (v := (1 : Int32)) dX9_chain_29 (by decide) ?_
  refine g_isub F dX9_chain_30 ?_
  refine g_istore_n F (lv' := [(2, .int ((Mm 8) - (1 : Int32))), (0, .ref (am 0)), (1, .int (0 : Int32))]) dX9_chain_31 rfl (by decide) rfl ?_
  refine Go.sub (lv' := [(0, .ref (am 0)), (1, .int (0 : Int32)), (2, .int ((Mm 8) - (1 : Int32)))]) [1, 2, 0] rfl ?_
  refine k_X9_chain_32_ok am Mm m_s F Rq _ (fun x1_5 m_far_5 h => ?_) _ (0 : Int32) ((Mm 8) - (1 : Int32)) m_far_1 h
  refine g_iload_n F dX9_chain_152 rfl 0 rfl ?_
  obtain rfl := Option.some.inj h
  exact g_iret F Rq rfl dX9_chain_153
theorem hi_X9_isSpare_X9 : ∀ w ∈ u_ws RX9 TX9 36, w ∈ wsX9_isSpare := by decide +kernel
theorem fl_X9_isSpare_145 : Cond.fieldLink RX9 145 "ArcOrderModel" "items" "I" ∈ wsX9_isSpare := by decide +kernel
theorem fl_X9_isSpare_16 : Cond.fieldLink RX9 16 "ArcOrderModel" "s" "[I" ∈ wsX9_isSpare := by decide +kernel
abbrev rm_X9_isSpare : Room := { frames := 2, cells := 0, slots := 0, locals := 45 }
set_option maxHeartbeats 4000000 in
set_option maxRecDepth 100000 in
theorem k_X9_isSpare_5_ok {G : GX} {cy : Nat → ClassId} (am : Nat → Nat)  (x1 : Int32) (x2 : Int32) (Mm : ModS) (m_s : (Nat → Int32)) {out : Int32} (F : Fx G cX9_isSpare wsX9_isSpare RX9 cy 5 (rm_X9_isSpare)) (Rq : Rx G "isSpare" (some .boolean) (some (.int out)) (fun z => z = [(sMod cy am Mm), (sI cy (am 12) 24 m_s)]) 0 0) (ke : Int32 → Option (Int32)) (hke : ∀ (x3 : Int32) , ke x3 = some out → Go G 0 0 65 [(3, .int x3)] [] [(sMod cy am Mm), (sI cy (am 12) 24 m_s)]) : ∀ (n : Nat) (x3 : Int32) (x4 : Int32) , k_X9_isSpare_5 x1 x2 Mm m_s ke n x3 x4 = some out → Go G 0 0 5 [(0, .ref (am 0)), (1, .int x1), (2, .int x2), (3, .int x3), (4, .int x4)] [] [(sMod cy am Mm), (sI cy (am 12) 24 m_s)] := by
  intro n
  induction n with
  | zero =>
    intro x3 x4 h
    exact nosome h
  | succ n ih =>
    intro x3 x4 h
    rw [k_X9_isSpare_5.eq_2] at h
    refine g_iload F dX9_isSpare_5 4 rfl ?_
    refine g_aload_n F dX9_isSpare_7 rfl 0 rfl ?_
    refine g_get F (C := RX9) (T := TX9) (N := 36) (ci := 9) (v := .int (Mm 8)) hi_X9_isSpare_X9 0 0 8 dX9_isSpare_8 rfl rfl (by decide) fl_X9_isSpare_145 rfl ?_
    refine g_icmp_ge F 65 h dX9_isSpare_11 (by decide) (fun h => ?_) (fun h => ?_)
    · refine Go.sub (lv' := [(3, .int x3)]) [3] rfl ?_
      exact hke x3 h
    · refine g_iload_n F dX9_isSpare_14 rfl 3 rfl ?_
      refine g_if_ne F 53 h dX9_isSpare_15 (by decide) (fun h => ?_) (fun h => ?_)
      · refine g_iconst F (v := (1 : Int32)) dX9_isSpare_53 (by decide) ?_
        refine g_goto F 58 dX9_isSpare_54 (by decide) ?_
        refine g_istore_n F (lv' := [(3, .int (1 : Int32)), (0, .ref (am 0)), (1, .int x1), (2, .int x2), (4, .int x4)]) dX9_isSpare_58 rfl (by decide) rfl ?_
        refine g_iinc F (v := (x4 + 1)) (lv' := [(4, .int (x4 + 1)), (3, .int (1 : Int32)), (0, .ref (am 0)), (1, .int x1), (2, .int x2)]) dX9_isSpare_59 4 rfl rfl (by decide) rfl ?_
        refine g_goto F 5 dX9_isSpare_62 (by decide) ?_
        refine Go.sub (lv' := [(0, .ref (am 0)), (1, .int x1), (2, .int x2), (3, .int (1 : Int32)), (4, .int (x4 + 1))]) [2, 3, 4, 1, 0] rfl ?_
        exact ih (1 : Int32) (x4 + 1) h
      · refine g_iload F dX9_isSpare_18 4 rfl ?_
        refine g_iload_n F dX9_isSpare_20 rfl 2 rfl ?_
        refine g_icmp_eq F 57 h dX9_isSpare_21 (by decide) (fun h => ?_) (fun h => ?_)
        · refine g_iconst F (v := (0 : Int32)) dX9_isSpare_57 (by decide) ?_
          refine g_istore_n F (lv' := [(3, .int (0 : Int32)), (0, .ref (am 0)), (1, .int x1), (2, .int x2), (4, .int x4)]) dX9_isSpare_58 rfl (by decide) rfl ?_
          refine g_iinc F (v := (x4 + 1)) (lv' := [(4, .int (x4 + 1)), (3, .int (0 : Int32)), (0, .ref (am 0)), (1, .int x1), (2, .int x2)]) dX9_isSpare_59 4 rfl rfl (by decide) rfl ?_
          refine g_goto F 5 dX9_isSpare_62 (by decide) ?_
          refine Go.sub (lv' := [(0, .ref (am 0)), (1, .int x1), (2, .int x2), (3, .int (0 : Int32)), (4, .int (x4 + 1))]) [2, 3, 4, 1, 0] rfl ?_
          exact ih (0 : Int32) (x4 + 1) h
        · refine g_aload_n F dX9_isSpare_24 rfl 0 rfl ?_
          refine g_get F (C := RX9) (T := TX9) (N := 36) (ci := 9) (v := .ref (am 12)) hi_X9_isSpare_X9 0 0 11 dX9_isSpare_25 rfl rfl (by decide) fl_X9_isSpare_16 rfl ?_
          refine g_iconst F (v := (0 : Int32)) dX9_isSpare_28 (by decide) ?_
          refine g_iload_n F dX9_isSpare_29 rfl 1 rfl ?_
          refine g_iadd F dX9_isSpare_30 ?_
          refine g_iaload F h 1 0 dX9_isSpare_31 rfl (fun h => ?_)
          refine g_iload F dX9_isSpare_32 4 rfl ?_
          obtain ⟨r1, hr1, h⟩ := bnd h
          refine g_cS F [.int (m_s (((0 : Int32) + x1)).toNatClampNeg), .int x4] (ok_X9_has (gl G) (gD G) cy (m_s (((0 : Int32) + x1)).toNatClampNeg) x4 r1 hr1) dX9_isSpare_34 gX9_isSpare_X9_has rfl cd_X9_has (by decide) rfl (Nat.le_of_ble_eq_true rfl) [] (by decide) rfl rfl (sg' := [(sMod cy am Mm), (sI cy (am 12) 24 m_s)]) (st' := [.int r1]) rfl rfl ?_
          refine g_if_eq F 57 h dX9_isSpare_37 (by decide) (fun h => ?_) (fun h => ?_)
          · refine g_iconst F (v := (0 : Int32)) dX9_isSpare_57 (by decide) ?_
            refine g_istore_n F (lv' := [(3, .int (0 : Int32)), (0, .ref (am 0)), (1, .int x1), (2, .int x2), (4, .int x4)]) dX9_isSpare_58 rfl (by decide) rfl ?_
            refine g_iinc F (v := (x4 + 1)) (lv' := [(4, .int (x4 + 1)), (3, .int (0 : Int32)), (0, .ref (am 0)), (1, .int x1), (2, .int x2)]) dX9_isSpare_59 4 rfl rfl (by decide) rfl ?_
            refine g_goto F 5 dX9_isSpare_62 (by decide) ?_
            refine Go.sub (lv' := [(0, .ref (am 0)), (1, .int x1), (2, .int x2), (3, .int (0 : Int32)), (4, .int (x4 + 1))]) [2, 3, 4, 1, 0] rfl ?_
            exact ih (0 : Int32) (x4 + 1) h
          · refine g_aload_n F dX9_isSpare_40 rfl 0 rfl ?_
            refine g_iload F dX9_isSpare_41 4 rfl ?_
            obtain ⟨r2, hr2, h⟩ := bnd h
            refine g_cV F [.int x4] 0 0 (ok_X9_behind (gl G) (gD G) cy am Mm m_s x4 r2 hr2) dX9_isSpare_43 rfl rfl gX9_isSpare_X9_behind rfl ⟨rfl, cd_X9_behind⟩ (by decide) rfl (Nat.le_of_ble_eq_true rfl) [0, 1] (by decide) rfl rfl (sg' := [(sMod cy am Mm), (sI cy (am 12) 24 m_s)]) (st' := [.int r2]) rfl rfl ?_
            refine g_iload_n F dX9_isSpare_46 rfl 2 rfl ?_
            obtain ⟨r3, hr3, h⟩ := bnd h
            refine g_cS F [.int r2, .int x2] (ok_X9_has (gl G) (gD G) cy r2 x2 r3 hr3) dX9_isSpare_47 gX9_isSpare_X9_has rfl cd_X9_has (by decide) rfl (Nat.le_of_ble_eq_true rfl) [] (by decide) rfl rfl (sg' := [(sMod cy am Mm), (sI cy (am 12) 24 m_s)]) (st' := [.int r3]) rfl rfl ?_
            refine g_if_eq F 57 h dX9_isSpare_50 (by decide) (fun h => ?_) (fun h => ?_)
            · refine g_iconst F (v := (0 : Int32)) dX9_isSpare_57 (by decide) ?_
              refine g_istore_n F (lv' := [(3, .int (0 : Int32)), (0, .ref (am 0)), (1, .int x1), (2, .int x2), (4, .int x4)]) dX9_isSpare_58 rfl (by decide) rfl ?_
              refine g_iinc F (v := (x4 + 1)) (lv' := [(4, .int (x4 + 1)), (3, .int (0 : Int32)), (0, .ref (am 0)), (1, .int x1), (2, .int x2)]) dX9_isSpare_59 4 rfl rfl (by decide) rfl ?_
              refine g_goto F 5 dX9_isSpare_62 (by decide) ?_
              refine Go.sub (lv' := [(0, .ref (am 0)), (1, .int x1), (2, .int x2), (3, .int (0 : Int32)), (4, .int (x4 + 1))]) [2, 3, 4, 1, 0] rfl ?_
              exact ih (0 : Int32) (x4 + 1) h
            · refine g_iconst F (v := (1 : Int32)) dX9_isSpare_53 (by decide) ?_
              refine g_goto F 58 dX9_isSpare_54 (by decide) ?_
              refine g_istore_n F (lv' := [(3, .int (1 : Int32)), (0, .ref (am 0)), (1, .int x1), (2, .int x2), (4, .int x4)]) dX9_isSpare_58 rfl (by decide) rfl ?_
              refine g_iinc F (v := (x4 + 1)) (lv' := [(4, .int (x4 + 1)), (3, .int (1 : Int32)), (0, .ref (am 0)), (1, .int x1), (2, .int x2)]) dX9_isSpare_59 4 rfl rfl (by decide) rfl ?_
              refine g_goto F 5 dX9_isSpare_62 (by decide) ?_
              refine Go.sub (lv' := [(0, .ref (am 0)), (1, .int x1), (2, .int x2), (3, .int (1 : Int32)), (4, .int (x4 + 1))]) [2, 3, 4, 1, 0] rfl ?_
              exact ih (1 : Int32) (x4 + 1) h
set_option maxHeartbeats 4000000 in
set_option maxRecDepth 100000 in
theorem ok_X9_isSpare (l : Launch) (D : va_G) (cy : Nat → ClassId) (am : Nat → Nat)  (Mm : ModS) (m_s : (Nat → Int32)) (x1 : Int32) (x2 : Int32) (out : Int32) (h : f_X9_isSpare Mm m_s x1 x2 = some out) : OK l D cy yX9_isSpare wsX9_isSpare rm_X9_isSpare [.ref (am 0), .int x1, .int x2] [(sMod cy am Mm), (sI cy (am 12) 24 m_s)] (some (.int out)) [(sMod cy am Mm), (sI cy (am 12) 24 m_s)] := by
  refine OKx.of (cc := cX9_isSpare) (maxL := 5) (ret := (some .boolean)) (by decide) rfl (Nat.le_of_ble_eq_true rfl) (fun G F Rq => ?_)
  show Go G 0 0 0 [(0, .ref (am 0)), (1, .int x1), (2, .int x2)] [] [(sMod cy am Mm), (sI cy (am 12) 24 m_s)]
  replace F : Fx G cX9_isSpare wsX9_isSpare RX9 cy 5 (rm_X9_isSpare) := F
  replace Rq : Rx G "isSpare" (some .boolean) (some (.int out)) (fun z => z = [(sMod cy am Mm), (sI cy (am 12) 24 m_s)]) 0 0 := Rq
  unfold f_X9_isSpare at h
  refine g_iconst F (v := (0 : Int32)) dX9_isSpare_0 (by decide) ?_
  refine g_istore_n F (lv' := [(3, .int (0 : Int32)), (0, .ref (am 0)), (1, .int x1), (2, .int x2)]) dX9_isSpare_1 rfl (by decide) rfl ?_
  refine g_iconst F (v := (0 : Int32)) dX9_isSpare_2 (by decide) ?_
  refine g_istore F (lv' := [(4, .int (0 : Int32)), (3, .int (0 : Int32)), (0, .ref (am 0)), (1, .int x1), (2, .int x2)]) dX9_isSpare_3 (by decide) rfl ?_
  refine Go.sub (lv' := [(0, .ref (am 0)), (1, .int x1), (2, .int x2), (3, .int (0 : Int32)), (4, .int (0 : Int32))]) [2, 3, 4, 1, 0] rfl ?_
  refine k_X9_isSpare_5_ok am x1 x2 Mm m_s F Rq _ (fun x3_4 h => ?_) _ (0 : Int32) (0 : Int32) h
  refine g_iload_n F dX9_isSpare_65 rfl 0 rfl ?_
  obtain ⟨z5, h⟩ := grd h
  obtain rfl := Option.some.inj h
  exact g_zret F Rq rfl (isZ_n z5) dX9_isSpare_66
theorem hi_X9_spares_X9 : ∀ w ∈ u_ws RX9 TX9 36, w ∈ wsX9_spares := by decide +kernel
theorem fl_X9_spares_145 : Cond.fieldLink RX9 145 "ArcOrderModel" "items" "I" ∈ wsX9_spares := by decide +kernel
theorem fl_X9_spares_16 : Cond.fieldLink RX9 16 "ArcOrderModel" "s" "[I" ∈ wsX9_spares := by decide +kernel
abbrev rm_X9_spares : Room := { frames := 3, cells := 0, slots := 0, locals := 69 }
set_option maxHeartbeats 4000000 in
set_option maxRecDepth 100000 in
theorem k_X9_spares_14_ok {G : GX} {cy : Nat → ClassId} (am : Nat → Nat)  (x2 : Int32) (Mm : ModS) (m_s : (Nat → Int32)) {out : Int32} (F : Fx G cX9_spares wsX9_spares RX9 cy 4 (rm_X9_spares)) (Rq : Rx G "spares" (some .int) (some (.int out)) (fun z => z = [(sMod cy am Mm), (sI cy (am 12) 24 m_s)]) 0 0) (ke : Int32 → Option (Int32)) (hke : ∀ (x1 : Int32) , ke x1 = some out → Go G 0 0 60 [(0, .ref (am 0)), (1, .int x1), (2, .int x2)] [] [(sMod cy am Mm), (sI cy (am 12) 24 m_s)]) : ∀ (n : Nat) (x1 : Int32) (x3 : Int32) , k_X9_spares_14 x2 Mm m_s ke n x1 x3 = some out → Go G 0 0 14 [(0, .ref (am 0)), (1, .int x1), (2, .int x2), (3, .int x3)] [] [(sMod cy am Mm), (sI cy (am 12) 24 m_s)] := by
  intro n
  induction n with
  | zero =>
    intro x1 x3 h
    exact nosome h
  | succ n ih =>
    intro x1 x3 h
    rw [k_X9_spares_14.eq_2] at h
    refine g_iload_n F dX9_spares_14 rfl 3 rfl ?_
    refine g_aload_n F dX9_spares_15 rfl 0 rfl ?_
    refine g_get F (C := RX9) (T := TX9) (N := 36) (ci := 9) (v := .int (Mm 8)) hi_X9_spares_X9 0 0 8 dX9_spares_16 rfl rfl (by decide) fl_X9_spares_145 rfl ?_
    refine g_icmp_ge F 60 h dX9_spares_19 (by decide) (fun h => ?_) (fun h => ?_)
    · refine Go.sub (lv' := [(0, .ref (am 0)), (1, .int x1), (2, .int x2)]) [0, 1, 2] rfl ?_
      exact hke x1 h
    · refine g_iload_n F dX9_spares_22 rfl 1 rfl ?_
      refine g_aload_n F dX9_spares_23 rfl 0 rfl ?_
      refine g_get F (C := RX9) (T := TX9) (N := 36) (ci := 9) (v := .ref (am 12)) hi_X9_spares_X9 0 0 11 dX9_spares_24 rfl rfl (by decide) fl_X9_spares_16 rfl ?_
      refine g_iconst F (v := (0 : Int32)) dX9_spares_27 (by decide) ?_
      refine g_iload_n F dX9_spares_28 rfl 2 rfl ?_
      refine g_iadd F dX9_spares_29 ?_
      refine g_iaload F h 1 0 dX9_spares_30 rfl (fun h => ?_)
      refine g_iload_n F dX9_spares_31 rfl 3 rfl ?_
      obtain ⟨r1, hr1, h⟩ := bnd h
      refine g_cS F [.int (m_s (((0 : Int32) + x2)).toNatClampNeg), .int x3] (ok_X9_has (gl G) (gD G) cy (m_s (((0 : Int32) + x2)).toNatClampNeg) x3 r1 hr1) dX9_spares_32 gX9_spares_X9_has rfl cd_X9_has (by decide) rfl (Nat.le_of_ble_eq_true rfl) [] (by decide) rfl rfl (sg' := [(sMod cy am Mm), (sI cy (am 12) 24 m_s)]) (st' := [.int r1, .int x1]) rfl rfl ?_
      refine g_if_eq F 51 h dX9_spares_35 (by decide) (fun h => ?_) (fun h => ?_)
      · refine g_iconst F (v := (0 : Int32)) dX9_spares_51 (by decide) ?_
        refine g_iadd F dX9_spares_52 ?_
        refine g_istore_n F (lv' := [(1, .int (x1 + (0 : Int32))), (0, .ref (am 0)), (2, .int x2), (3, .int x3)]) dX9_spares_53 rfl (by decide) rfl ?_
        refine g_iinc F (v := (x3 + 1)) (lv' := [(3, .int (x3 + 1)), (1, .int (x1 + (0 : Int32))), (0, .ref (am 0)), (2, .int x2)]) dX9_spares_54 3 rfl rfl (by decide) rfl ?_
        refine g_goto F 14 dX9_spares_57 (by decide) ?_
        refine Go.sub (lv' := [(0, .ref (am 0)), (1, .int (x1 + (0 : Int32))), (2, .int x2), (3, .int (x3 + 1))]) [2, 1, 3, 0] rfl ?_
        exact ih (x1 + (0 : Int32)) (x3 + 1) h
      · refine g_aload_n F dX9_spares_38 rfl 0 rfl ?_
        refine g_iload_n F dX9_spares_39 rfl 2 rfl ?_
        refine g_iload_n F dX9_spares_40 rfl 3 rfl ?_
        obtain ⟨r2, hr2, h⟩ := bnd h
        refine g_cV F [.int x2, .int x3] 0 0 (ok_X9_isSpare (gl G) (gD G) cy am Mm m_s x2 x3 r2 hr2) dX9_spares_41 rfl rfl gX9_spares_X9_isSpare rfl ⟨rfl, cd_X9_isSpare⟩ (by decide) rfl (Nat.le_of_ble_eq_true rfl) [0, 1] (by decide) rfl rfl (sg' := [(sMod cy am Mm), (sI cy (am 12) 24 m_s)]) (st' := [.int r2, .int x1]) rfl rfl ?_
        refine g_if_eq F 51 h dX9_spares_44 (by decide) (fun h => ?_) (fun h => ?_)
        · refine g_iconst F (v := (0 : Int32)) dX9_spares_51 (by decide) ?_
          refine g_iadd F dX9_spares_52 ?_
          refine g_istore_n F (lv' := [(1, .int (x1 + (0 : Int32))), (0, .ref (am 0)), (2, .int x2), (3, .int x3)]) dX9_spares_53 rfl (by decide) rfl ?_
          refine g_iinc F (v := (x3 + 1)) (lv' := [(3, .int (x3 + 1)), (1, .int (x1 + (0 : Int32))), (0, .ref (am 0)), (2, .int x2)]) dX9_spares_54 3 rfl rfl (by decide) rfl ?_
          refine g_goto F 14 dX9_spares_57 (by decide) ?_
          refine Go.sub (lv' := [(0, .ref (am 0)), (1, .int (x1 + (0 : Int32))), (2, .int x2), (3, .int (x3 + 1))]) [2, 1, 3, 0] rfl ?_
          exact ih (x1 + (0 : Int32)) (x3 + 1) h
        · refine g_iconst F (v := (1 : Int32)) dX9_spares_47 (by decide) ?_
          refine g_goto F 52 dX9_spares_48 (by decide) ?_
          refine g_iadd F dX9_spares_52 ?_
          refine g_istore_n F (lv' := [(1, .int (x1 + (1 : Int32))), (0, .ref (am 0)), (2, .int x2), (3, .int x3)]) dX9_spares_53 rfl (by decide) rfl ?_
          refine g_iinc F (v := (x3 + 1)) (lv' := [(3, .int (x3 + 1)), (1, .int (x1 + (1 : Int32))), (0, .ref (am 0)), (2, .int x2)]) dX9_spares_54 3 rfl rfl (by decide) rfl ?_
          refine g_goto F 14 dX9_spares_57 (by decide) ?_
          refine Go.sub (lv' := [(0, .ref (am 0)), (1, .int (x1 + (1 : Int32))), (2, .int x2), (3, .int (x3 + 1))]) [2, 1, 3, 0] rfl ?_
          exact ih (x1 + (1 : Int32)) (x3 + 1) h
set_option maxHeartbeats 4000000 in
set_option maxRecDepth 100000 in
theorem k_X9_spares_4_ok {G : GX} {cy : Nat → ClassId} (am : Nat → Nat)   (Mm : ModS) (m_s : (Nat → Int32)) {out : Int32} (F : Fx G cX9_spares wsX9_spares RX9 cy 4 (rm_X9_spares)) (Rq : Rx G "spares" (some .int) (some (.int out)) (fun z => z = [(sMod cy am Mm), (sI cy (am 12) 24 m_s)]) 0 0) (ke : Int32 → Option (Int32)) (hke : ∀ (x1 : Int32) , ke x1 = some out → Go G 0 0 66 [(1, .int x1)] [] [(sMod cy am Mm), (sI cy (am 12) 24 m_s)]) : ∀ (n : Nat) (x1 : Int32) (x2 : Int32) , k_X9_spares_4 Mm m_s ke n x1 x2 = some out → Go G 0 0 4 [(0, .ref (am 0)), (1, .int x1), (2, .int x2)] [] [(sMod cy am Mm), (sI cy (am 12) 24 m_s)] := by
  intro n
  induction n with
  | zero =>
    intro x1 x2 h
    exact nosome h
  | succ n ih =>
    intro x1 x2 h
    rw [k_X9_spares_4.eq_2] at h
    refine g_iload_n F dX9_spares_4 rfl 2 rfl ?_
    refine g_aload_n F dX9_spares_5 rfl 0 rfl ?_
    refine g_get F (C := RX9) (T := TX9) (N := 36) (ci := 9) (v := .int (Mm 8)) hi_X9_spares_X9 0 0 8 dX9_spares_6 rfl rfl (by decide) fl_X9_spares_145 rfl ?_
    refine g_icmp_ge F 66 h dX9_spares_9 (by decide) (fun h => ?_) (fun h => ?_)
    · refine Go.sub (lv' := [(1, .int x1)]) [1] rfl ?_
      exact hke x1 h
    · refine g_iconst F (v := (0 : Int32)) dX9_spares_12 (by decide) ?_
      refine g_istore_n F (lv' := [(3, .int (0 : Int32)), (0, .ref (am 0)), (1, .int x1), (2, .int x2)]) dX9_spares_13 rfl (by decide) rfl ?_
      refine Go.sub (lv' := [(0, .ref (am 0)), (1, .int x1), (2, .int x2), (3, .int (0 : Int32))]) [1, 2, 3, 0] rfl ?_
      refine k_X9_spares_14_ok am x2 Mm m_s F Rq _ (fun x1_3 h => ?_) _ x1 (0 : Int32) h
      refine g_iinc F (v := (x2 + 1)) (lv' := [(2, .int (x2 + 1)), (0, .ref (am 0)), (1, .int x1_3)]) dX9_spares_60 2 rfl rfl (by decide) rfl ?_
      refine g_goto F 4 dX9_spares_63 (by decide) ?_
      refine Go.sub (lv' := [(0, .ref (am 0)), (1, .int x1_3), (2, .int (x2 + 1))]) [1, 2, 0] rfl ?_
      exact ih x1_3 (x2 + 1) h
set_option maxHeartbeats 4000000 in
set_option maxRecDepth 100000 in
theorem ok_X9_spares (l : Launch) (D : va_G) (cy : Nat → ClassId) (am : Nat → Nat)  (Mm : ModS) (m_s : (Nat → Int32))  (out : Int32) (h : f_X9_spares Mm m_s = some out) : OK l D cy yX9_spares wsX9_spares rm_X9_spares [.ref (am 0)] [(sMod cy am Mm), (sI cy (am 12) 24 m_s)] (some (.int out)) [(sMod cy am Mm), (sI cy (am 12) 24 m_s)] := by
  refine OKx.of (cc := cX9_spares) (maxL := 4) (ret := (some .int)) (by decide) rfl (Nat.le_of_ble_eq_true rfl) (fun G F Rq => ?_)
  show Go G 0 0 0 [(0, .ref (am 0))] [] [(sMod cy am Mm), (sI cy (am 12) 24 m_s)]
  replace F : Fx G cX9_spares wsX9_spares RX9 cy 4 (rm_X9_spares) := F
  replace Rq : Rx G "spares" (some .int) (some (.int out)) (fun z => z = [(sMod cy am Mm), (sI cy (am 12) 24 m_s)]) 0 0 := Rq
  unfold f_X9_spares at h
  refine g_iconst F (v := (0 : Int32)) dX9_spares_0 (by decide) ?_
  refine g_istore_n F (lv' := [(1, .int (0 : Int32)), (0, .ref (am 0))]) dX9_spares_1 rfl (by decide) rfl ?_
  refine g_iconst F (v := (0 : Int32)) dX9_spares_2 (by decide) ?_
  refine g_istore_n F (lv' := [(2, .int (0 : Int32)), (1, .int (0 : Int32)), (0, .ref (am 0))]) dX9_spares_3 rfl (by decide) rfl ?_
  refine Go.sub (lv' := [(0, .ref (am 0)), (1, .int (0 : Int32)), (2, .int (0 : Int32))]) [2, 1, 0] rfl ?_
  refine k_X9_spares_4_ok am Mm m_s F Rq _ (fun x1_4 h => ?_) _ (0 : Int32) (0 : Int32) h
  refine g_iload_n F dX9_spares_66 rfl 0 rfl ?_
  obtain rfl := Option.some.inj h
  exact g_iret F Rq rfl dX9_spares_67
theorem hi_X9_now_X9 : ∀ w ∈ u_ws RX9 TX9 36, w ∈ wsX9_now := by decide +kernel
theorem fl_X9_now_75 : Cond.fieldLink RX9 75 "ArcOrderModel" "thrown" "I" ∈ wsX9_now := by decide +kernel
theorem fl_X9_now_158 : Cond.fieldLink RX9 158 "ArcOrderModel" "undoMany" "I" ∈ wsX9_now := by decide +kernel
abbrev rm_X9_now : Room := { frames := 4, cells := 0, slots := 0, locals := 97 }
set_option maxHeartbeats 4000000 in
set_option maxRecDepth 100000 in
theorem ok_X9_now (l : Launch) (D : va_G) (cy : Nat → ClassId) (am : Nat → Nat)  (Mm : ModS) (m_s : (Nat → Int32)) (m_w : (Nat → Int32)) (m_far : (Nat → Int32)) (m_order : (Nat → Int32)) (m_tried : (Nat → Int32)) (x1 : Int32) (out : Int32 × ModS × (Nat → Int32) × (Nat → Int32) × (Nat → Int32) × (Nat → Int32)) (h : f_X9_now Mm m_s m_w m_far m_order m_tried x1 = some out) : OK l D cy yX9_now wsX9_now rm_X9_now [.ref (am 0), .int x1] [(sMod cy am Mm), (sI cy (am 12) 24 m_s), (sI cy (am 13) 24 m_w), (sI cy (am 30) 12 m_far), (sI cy (am 33) 12 m_order), (sI cy (am 34) 24 m_tried)] (some (.int out.1)) [(sMod cy am out.2.1), (sI cy (am 12) 24 m_s), (sI cy (am 13) 24 out.2.2.1), (sI cy (am 30) 12 out.2.2.2.1), (sI cy (am 33) 12 out.2.2.2.2.1), (sI cy (am 34) 24 out.2.2.2.2.2)] := by
  refine OKx.of (cc := cX9_now) (maxL := 2) (ret := (some .int)) (by decide) rfl (Nat.le_of_ble_eq_true rfl) (fun G F Rq => ?_)
  show Go G 0 0 0 [(0, .ref (am 0)), (1, .int x1)] [] [(sMod cy am Mm), (sI cy (am 12) 24 m_s), (sI cy (am 13) 24 m_w), (sI cy (am 30) 12 m_far), (sI cy (am 33) 12 m_order), (sI cy (am 34) 24 m_tried)]
  replace F : Fx G cX9_now wsX9_now RX9 cy 2 (rm_X9_now) := F
  replace Rq : Rx G "now" (some .int) (some (.int out.1)) (fun z => z = [(sMod cy am out.2.1), (sI cy (am 12) 24 m_s), (sI cy (am 13) 24 out.2.2.1), (sI cy (am 30) 12 out.2.2.2.1), (sI cy (am 33) 12 out.2.2.2.2.1), (sI cy (am 34) 24 out.2.2.2.2.2)]) 0 0 := Rq
  unfold f_X9_now at h
  refine g_aload_n F dX9_now_0 rfl 0 rfl ?_
  refine g_iconst F (v := (0 : Int32)) dX9_now_1 (by decide) ?_
  refine g_put F (C := RX9) (T := TX9) (N := 36) (ci := 9) (v := .int (0 : Int32)) (ty := .int) (sg' := [(sMod cy am (upd Mm 0 (0 : Int32))), (sI cy (am 12) 24 m_s), (sI cy (am 13) 24 m_w), (sI cy (am 30) 12 m_far), (sI cy (am 33) 12 m_order), (sI cy (am 34) 24 m_tried)]) hi_X9_now_X9 tyX9 tyX9_ok nmX9 0 0 0 dX9_now_2 rfl rfl (by decide) fl_X9_now_75 rfl rfl rfl rfl (Nat.le_of_ble_eq_true rfl) rfl ?_
  refine g_iload_n F dX9_now_5 rfl 1 rfl ?_
  refine g_iconst F (v := (0 : Int32)) dX9_now_6 (by decide) ?_
  refine g_iconst F (v := (5 : Int32)) dX9_now_7 (by decide) ?_
  obtain ⟨r1, hr1, h⟩ := bnd h
  refine g_cS F [.int x1, .int (0 : Int32), .int (5 : Int32)] (ok_X9_in (gl G) (gD G) cy x1 (0 : Int32) (5 : Int32) r1 hr1) dX9_now_8 gX9_now_X9_in rfl cd_X9_in (by decide) rfl (Nat.le_of_ble_eq_true rfl) [] (by decide) rfl rfl (sg' := [(sMod cy am (upd Mm 0 (0 : Int32))), (sI cy (am 12) 24 m_s), (sI cy (am 13) 24 m_w), (sI cy (am 30) 12 m_far), (sI cy (am 33) 12 m_order), (sI cy (am 34) 24 m_tried)]) (st' := [.int r1]) rfl rfl ?_
  refine g_if_ne F 16 h dX9_now_11 (by decide) (fun h => ?_) (fun h => ?_)
  · refine g_iload_n F dX9_now_16 rfl 1 rfl ?_
    refine g_iconst F (v := (3 : Int32)) dX9_now_17 (by decide) ?_
    refine g_icmp_ge F 49 h dX9_now_18 (by decide) (fun h => ?_) (fun h => ?_)
    · refine g_iload_n F dX9_now_49 rfl 1 rfl ?_
      refine g_iconst F (v := (3 : Int32)) dX9_now_50 (by decide) ?_
      refine g_icmp_ne F 61 h dX9_now_51 (by decide) (fun h => ?_) (fun h => ?_)
      · refine g_iload_n F dX9_now_61 rfl 1 rfl ?_
        refine g_iconst F (v := (4 : Int32)) dX9_now_62 (by decide) ?_
        refine g_icmp_ne F 73 h dX9_now_63 (by decide) (fun h => ?_) (fun h => ?_)
        · refine g_aload_n F dX9_now_73 rfl 0 rfl ?_
          refine g_get F (C := RX9) (T := TX9) (N := 36) (ci := 9) (v := .int (Mm 17)) hi_X9_now_X9 0 0 17 dX9_now_74 rfl rfl (by decide) fl_X9_now_158 rfl ?_
          obtain rfl := Option.some.inj h
          exact g_iret F Rq rfl dX9_now_77
        · refine g_aload_n F dX9_now_66 rfl 0 rfl ?_
          obtain ⟨r2, hr2, h⟩ := bnd h
          refine g_cV F [] 0 0 (ok_X9_spares (gl G) (gD G) cy am (upd Mm 0 (0 : Int32)) m_s r2 hr2) dX9_now_67 rfl rfl gX9_now_X9_spares rfl ⟨rfl, cd_X9_spares⟩ (by decide) rfl (Nat.le_of_ble_eq_true rfl) [0, 1] (by decide) rfl rfl (sg' := [(sMod cy am (upd Mm 0 (0 : Int32))), (sI cy (am 12) 24 m_s), (sI cy (am 13) 24 m_w), (sI cy (am 30) 12 m_far), (sI cy (am 33) 12 m_order), (sI cy (am 34) 24 m_tried)]) (st' := [.int r2]) rfl rfl ?_
          refine g_goto F 77 dX9_now_70 (by decide) ?_
          obtain rfl := Option.some.inj h
          exact g_iret F Rq rfl dX9_now_77
      · refine g_aload_n F dX9_now_54 rfl 0 rfl ?_
        obtain ⟨r3, hr3, h⟩ := bnd h
        refine g_cV F [] 0 0 (ok_X9_chain (gl G) (gD G) cy am (upd Mm 0 (0 : Int32)) m_s m_far r3 hr3) dX9_now_55 rfl rfl gX9_now_X9_chain rfl ⟨rfl, cd_X9_chain⟩ (by decide) rfl (Nat.le_of_ble_eq_true rfl) [0, 1, 3] (by decide) rfl rfl (sg' := [(sMod cy am (upd Mm 0 (0 : Int32))), (sI cy (am 12) 24 m_s), (sI cy (am 13) 24 m_w), (sI cy (am 30) 12 r3.2), (sI cy (am 33) 12 m_order), (sI cy (am 34) 24 m_tried)]) (st' := [.int r3.1]) rfl rfl ?_
        refine g_goto F 77 dX9_now_58 (by decide) ?_
        obtain rfl := Option.some.inj h
        exact g_iret F Rq rfl dX9_now_77
    · refine g_iload_n F dX9_now_21 rfl 1 rfl ?_
      refine g_if_ne F 32 h dX9_now_22 (by decide) (fun h => ?_) (fun h => ?_)
      · refine g_iload_n F dX9_now_32 rfl 1 rfl ?_
        refine g_iconst F (v := (1 : Int32)) dX9_now_33 (by decide) ?_
        refine g_icmp_ne F 44 h dX9_now_34 (by decide) (fun h => ?_) (fun h => ?_)
        · refine g_aload_n F dX9_now_44 rfl 0 rfl ?_
          obtain ⟨r4, hr4, h⟩ := bnd h
          refine g_cV F [] 0 0 (ok_X9_most (gl G) (gD G) cy am (upd Mm 0 (0 : Int32)) m_s m_w m_order m_tried r4 hr4) dX9_now_45 rfl rfl gX9_now_X9_most rfl ⟨rfl, cd_X9_most⟩ (by decide) rfl (Nat.le_of_ble_eq_true rfl) [0, 1, 2, 4, 5] (by decide) rfl rfl (sg' := [(sMod cy am r4.2.1), (sI cy (am 12) 24 m_s), (sI cy (am 13) 24 r4.2.2.1), (sI cy (am 30) 12 m_far), (sI cy (am 33) 12 r4.2.2.2.1), (sI cy (am 34) 24 r4.2.2.2.2)]) (st' := [.int r4.1]) rfl rfl ?_
          obtain rfl := Option.some.inj h
          exact g_iret F Rq rfl dX9_now_48
        · refine g_aload_n F dX9_now_37 rfl 0 rfl ?_
          obtain ⟨r5, hr5, h⟩ := bnd h
          refine g_cV F [] 0 0 (ok_X9_free (gl G) (gD G) cy am (upd Mm 0 (0 : Int32)) m_s r5 hr5) dX9_now_38 rfl rfl gX9_now_X9_free rfl ⟨rfl, cd_X9_free⟩ (by decide) rfl (Nat.le_of_ble_eq_true rfl) [0, 1] (by decide) rfl rfl (sg' := [(sMod cy am (upd Mm 0 (0 : Int32))), (sI cy (am 12) 24 m_s), (sI cy (am 13) 24 m_w), (sI cy (am 30) 12 m_far), (sI cy (am 33) 12 m_order), (sI cy (am 34) 24 m_tried)]) (st' := [.int r5]) rfl rfl ?_
          refine g_goto F 48 dX9_now_41 (by decide) ?_
          obtain rfl := Option.some.inj h
          exact g_iret F Rq rfl dX9_now_48
      · refine g_aload_n F dX9_now_25 rfl 0 rfl ?_
        obtain ⟨r6, hr6, h⟩ := bnd h
        refine g_cV F [] 0 0 (ok_X9_arcs (gl G) (gD G) cy am (upd Mm 0 (0 : Int32)) m_s r6 hr6) dX9_now_26 rfl rfl gX9_now_X9_arcs rfl ⟨rfl, cd_X9_arcs⟩ (by decide) rfl (Nat.le_of_ble_eq_true rfl) [0, 1] (by decide) rfl rfl (sg' := [(sMod cy am (upd Mm 0 (0 : Int32))), (sI cy (am 12) 24 m_s), (sI cy (am 13) 24 m_w), (sI cy (am 30) 12 m_far), (sI cy (am 33) 12 m_order), (sI cy (am 34) 24 m_tried)]) (st' := [.int r6]) rfl rfl ?_
        refine g_goto F 48 dX9_now_29 (by decide) ?_
        obtain rfl := Option.some.inj h
        exact g_iret F Rq rfl dX9_now_48
  · refine g_iconst F (v := (-1 : Int32)) dX9_now_14 (by decide) ?_
    obtain rfl := Option.some.inj h
    exact g_iret F Rq rfl dX9_now_15
theorem hi_X9_notes_X9 : ∀ w ∈ u_ws RX9 TX9 36, w ∈ wsX9_notes := by decide +kernel
theorem fl_X9_notes_158 : Cond.fieldLink RX9 158 "ArcOrderModel" "undoMany" "I" ∈ wsX9_notes := by decide +kernel
theorem fl_X9_notes_32 : Cond.fieldLink RX9 32 "ArcOrderModel" "undos" "[I" ∈ wsX9_notes := by decide +kernel
theorem fl_X9_notes_16 : Cond.fieldLink RX9 16 "ArcOrderModel" "s" "[I" ∈ wsX9_notes := by decide +kernel
abbrev rm_X9_notes : Room := { frames := 0, cells := 0, slots := 0, locals := 0 }
set_option maxHeartbeats 4000000 in
set_option maxRecDepth 100000 in
theorem k_X9_notes_47_ok {G : GX} {cy : Nat → ClassId} (am : Nat → Nat)   (Mm : ModS) (m_s : (Nat → Int32)) {out : ModS × (Nat → Int32)} (F : Fx G cX9_notes wsX9_notes RX9 cy 2 (rm_X9_notes)) (Rq : Rx G "notes" none none (fun z => z = [(sMod cy am out.1), (sI cy (am 12) 24 m_s), (sI cy (am 17) 240 out.2)]) 0 0) (ke : (Nat → Int32) → Option (ModS × (Nat → Int32))) (hke : ∀  (m_undos : (Nat → Int32)), ke m_undos = some out → Go G 0 0 79 [(0, .ref (am 0))] [] [(sMod cy am Mm), (sI cy (am 12) 24 m_s), (sI cy (am 17) 240 m_undos)]) : ∀ (n : Nat) (x1 : Int32) (m_undos : (Nat → Int32)), k_X9_notes_47 Mm m_s ke n x1 m_undos = some out → Go G 0 0 47 [(0, .ref (am 0)), (1, .int x1)] [] [(sMod cy am Mm), (sI cy (am 12) 24 m_s), (sI cy (am 17) 240 m_undos)] := by
  intro n
  induction n with
  | zero =>
    intro x1 m_undos h
    exact nosome h
  | succ n ih =>
    intro x1 m_undos h
    rw [k_X9_notes_47.eq_2] at h
    refine g_iload_n F dX9_notes_47 rfl 1 rfl ?_
    refine g_bipush F (v := (24 : Int32)) dX9_notes_48 (by decide) ?_
    refine g_icmp_ge F 79 h dX9_notes_50 (by decide) (fun h => ?_) (fun h => ?_)
    · refine Go.sub (lv' := [(0, .ref (am 0))]) [0] rfl ?_
      exact hke m_undos h
    · refine g_aload_n F dX9_notes_53 rfl 0 rfl ?_
      refine g_get F (C := RX9) (T := TX9) (N := 36) (ci := 9) (v := .ref (am 17)) hi_X9_notes_X9 0 0 16 dX9_notes_54 rfl rfl (by decide) fl_X9_notes_32 rfl ?_
      refine g_bipush F (v := (24 : Int32)) dX9_notes_57 (by decide) ?_
      refine g_aload_n F dX9_notes_59 rfl 0 rfl ?_
      refine g_get F (C := RX9) (T := TX9) (N := 36) (ci := 9) (v := .int (Mm 17)) hi_X9_notes_X9 0 0 17 dX9_notes_60 rfl rfl (by decide) fl_X9_notes_158 rfl ?_
      refine g_imul F dX9_notes_63 ?_
      refine g_iload_n F dX9_notes_64 rfl 1 rfl ?_
      refine g_iadd F dX9_notes_65 ?_
      refine g_aload_n F dX9_notes_66 rfl 0 rfl ?_
      refine g_get F (C := RX9) (T := TX9) (N := 36) (ci := 9) (v := .ref (am 12)) hi_X9_notes_X9 0 0 11 dX9_notes_67 rfl rfl (by decide) fl_X9_notes_16 rfl ?_
      refine g_iload_n F dX9_notes_70 rfl 1 rfl ?_
      refine g_iaload F h 1 0 dX9_notes_71 rfl (fun h => ?_)
      refine g_iastore F h (sg' := [(sMod cy am Mm), (sI cy (am 12) 24 m_s), (sI cy (am 17) 240 (upd m_undos ((((24 : Int32) * (Mm 17)) + x1)).toNatClampNeg (m_s (x1).toNatClampNeg)))]) 2 0 dX9_notes_72 rfl rfl (fun h => ?_)
      refine g_iinc F (v := (x1 + 1)) (lv' := [(1, .int (x1 + 1)), (0, .ref (am 0))]) dX9_notes_73 1 rfl rfl (by decide) rfl ?_
      refine g_goto F 47 dX9_notes_76 (by decide) ?_
      refine Go.sub (lv' := [(0, .ref (am 0)), (1, .int (x1 + 1))]) [1, 0] rfl ?_
      exact ih (x1 + 1) (upd m_undos ((((24 : Int32) * (Mm 17)) + x1)).toNatClampNeg (m_s (x1).toNatClampNeg)) h
set_option maxHeartbeats 4000000 in
set_option maxRecDepth 100000 in
theorem k_X9_notes_11_ok {G : GX} {cy : Nat → ClassId} (am : Nat → Nat)   (Mm : ModS) (m_s : (Nat → Int32)) {out : ModS × (Nat → Int32)} (F : Fx G cX9_notes wsX9_notes RX9 cy 2 (rm_X9_notes)) (Rq : Rx G "notes" none none (fun z => z = [(sMod cy am out.1), (sI cy (am 12) 24 m_s), (sI cy (am 17) 240 out.2)]) 0 0) (ke : (Nat → Int32) → Option (ModS × (Nat → Int32))) (hke : ∀  (m_undos : (Nat → Int32)), ke m_undos = some out → Go G 0 0 39 [(0, .ref (am 0))] [] [(sMod cy am Mm), (sI cy (am 12) 24 m_s), (sI cy (am 17) 240 m_undos)]) : ∀ (n : Nat) (x1 : Int32) (m_undos : (Nat → Int32)), k_X9_notes_11 Mm m_s ke n x1 m_undos = some out → Go G 0 0 11 [(0, .ref (am 0)), (1, .int x1)] [] [(sMod cy am Mm), (sI cy (am 12) 24 m_s), (sI cy (am 17) 240 m_undos)] := by
  intro n
  induction n with
  | zero =>
    intro x1 m_undos h
    exact nosome h
  | succ n ih =>
    intro x1 m_undos h
    rw [k_X9_notes_11.eq_2] at h
    refine g_iload_n F dX9_notes_11 rfl 1 rfl ?_
    refine g_sipush F (v := (216 : Int32)) dX9_notes_12 (by decide) ?_
    refine g_icmp_ge F 39 h dX9_notes_15 (by decide) (fun h => ?_) (fun h => ?_)
    · refine Go.sub (lv' := [(0, .ref (am 0))]) [0] rfl ?_
      exact hke m_undos h
    · refine g_aload_n F dX9_notes_18 rfl 0 rfl ?_
      refine g_get F (C := RX9) (T := TX9) (N := 36) (ci := 9) (v := .ref (am 17)) hi_X9_notes_X9 0 0 16 dX9_notes_19 rfl rfl (by decide) fl_X9_notes_32 rfl ?_
      refine g_iload_n F dX9_notes_22 rfl 1 rfl ?_
      refine g_aload_n F dX9_notes_23 rfl 0 rfl ?_
      refine g_get F (C := RX9) (T := TX9) (N := 36) (ci := 9) (v := .ref (am 17)) hi_X9_notes_X9 0 0 16 dX9_notes_24 rfl rfl (by decide) fl_X9_notes_32 rfl ?_
      refine g_iload_n F dX9_notes_27 rfl 1 rfl ?_
      refine g_bipush F (v := (24 : Int32)) dX9_notes_28 (by decide) ?_
      refine g_iadd F dX9_notes_30 ?_
      refine g_iaload F h 2 0 dX9_notes_31 rfl (fun h => ?_)
      refine g_iastore F h (sg' := [(sMod cy am Mm), (sI cy (am 12) 24 m_s), (sI cy (am 17) 240 (upd m_undos (x1).toNatClampNeg (m_undos ((x1 + (24 : Int32))).toNatClampNeg)))]) 2 0 dX9_notes_32 rfl rfl (fun h => ?_)
      refine g_iinc F (v := (x1 + 1)) (lv' := [(1, .int (x1 + 1)), (0, .ref (am 0))]) dX9_notes_33 1 rfl rfl (by decide) rfl ?_
      refine g_goto F 11 dX9_notes_36 (by decide) ?_
      refine Go.sub (lv' := [(0, .ref (am 0)), (1, .int (x1 + 1))]) [1, 0] rfl ?_
      exact ih (x1 + 1) (upd m_undos (x1).toNatClampNeg (m_undos ((x1 + (24 : Int32))).toNatClampNeg)) h
set_option maxHeartbeats 4000000 in
set_option maxRecDepth 100000 in
theorem ok_X9_notes (l : Launch) (D : va_G) (cy : Nat → ClassId) (am : Nat → Nat)  (Mm : ModS) (m_s : (Nat → Int32)) (m_undos : (Nat → Int32))  (out : ModS × (Nat → Int32)) (h : f_X9_notes Mm m_s m_undos = some out) : OK l D cy yX9_notes wsX9_notes rm_X9_notes [.ref (am 0)] [(sMod cy am Mm), (sI cy (am 12) 24 m_s), (sI cy (am 17) 240 m_undos)] none [(sMod cy am out.1), (sI cy (am 12) 24 m_s), (sI cy (am 17) 240 out.2)] := by
  refine OKx.of (cc := cX9_notes) (maxL := 2) (ret := none) (by decide) rfl (Nat.le_of_ble_eq_true rfl) (fun G F Rq => ?_)
  show Go G 0 0 0 [(0, .ref (am 0))] [] [(sMod cy am Mm), (sI cy (am 12) 24 m_s), (sI cy (am 17) 240 m_undos)]
  replace F : Fx G cX9_notes wsX9_notes RX9 cy 2 (rm_X9_notes) := F
  replace Rq : Rx G "notes" none none (fun z => z = [(sMod cy am out.1), (sI cy (am 12) 24 m_s), (sI cy (am 17) 240 out.2)]) 0 0 := Rq
  unfold f_X9_notes at h
  refine g_aload_n F dX9_notes_0 rfl 0 rfl ?_
  refine g_get F (C := RX9) (T := TX9) (N := 36) (ci := 9) (v := .int (Mm 17)) hi_X9_notes_X9 0 0 17 dX9_notes_1 rfl rfl (by decide) fl_X9_notes_158 rfl ?_
  refine g_bipush F (v := (10 : Int32)) dX9_notes_4 (by decide) ?_
  refine g_icmp_ne F 45 h dX9_notes_6 (by decide) (fun h => ?_) (fun h => ?_)
  · refine g_iconst F (v := (0 : Int32)) dX9_notes_45 (by decide) ?_
    refine g_istore_n F (lv' := [(1, .int (0 : Int32)), (0, .ref (am 0))]) dX9_notes_46 rfl (by decide) rfl ?_
    refine Go.sub (lv' := [(0, .ref (am 0)), (1, .int (0 : Int32))]) [1, 0] rfl ?_
    refine k_X9_notes_47_ok am Mm m_s F Rq _ (fun m_undos_1 h => ?_) _ (0 : Int32) m_undos h
    refine g_aload_n F dX9_notes_79 rfl 0 rfl ?_
    refine g_dup F dX9_notes_80 rfl ?_
    refine g_get F (C := RX9) (T := TX9) (N := 36) (ci := 9) (v := .int (Mm 17)) hi_X9_notes_X9 0 0 17 dX9_notes_81 rfl rfl (by decide) fl_X9_notes_158 rfl ?_
    refine g_iconst F (v := (1 : Int32)) dX9_notes_84 (by decide) ?_
    refine g_iadd F dX9_notes_85 ?_
    refine g_put F (C := RX9) (T := TX9) (N := 36) (ci := 9) (v := .int ((Mm 17) + (1 : Int32))) (ty := .int) (sg' := [(sMod cy am (upd Mm 17 ((Mm 17) + (1 : Int32)))), (sI cy (am 12) 24 m_s), (sI cy (am 17) 240 m_undos_1)]) hi_X9_notes_X9 tyX9 tyX9_ok nmX9 0 0 17 dX9_notes_86 rfl rfl (by decide) fl_X9_notes_158 rfl rfl rfl rfl (Nat.le_of_ble_eq_true rfl) rfl ?_
    obtain rfl := Option.some.inj h
    exact g_vret F Rq rfl dX9_notes_89
  · refine g_iconst F (v := (0 : Int32)) dX9_notes_9 (by decide) ?_
    refine g_istore_n F (lv' := [(1, .int (0 : Int32)), (0, .ref (am 0))]) dX9_notes_10 rfl (by decide) rfl ?_
    refine Go.sub (lv' := [(0, .ref (am 0)), (1, .int (0 : Int32))]) [1, 0] rfl ?_
    refine k_X9_notes_11_ok am Mm m_s F Rq _ (fun m_undos_2 h => ?_) _ (0 : Int32) m_undos h
    refine g_aload_n F dX9_notes_39 rfl 0 rfl ?_
    refine g_bipush F (v := (9 : Int32)) dX9_notes_40 (by decide) ?_
    refine g_put F (C := RX9) (T := TX9) (N := 36) (ci := 9) (v := .int (9 : Int32)) (ty := .int) (sg' := [(sMod cy am (upd Mm 17 (9 : Int32))), (sI cy (am 12) 24 m_s), (sI cy (am 17) 240 m_undos_2)]) hi_X9_notes_X9 tyX9 tyX9_ok nmX9 0 0 17 dX9_notes_42 rfl rfl (by decide) fl_X9_notes_158 rfl rfl rfl rfl (Nat.le_of_ble_eq_true rfl) rfl ?_
    refine g_iconst F (v := (0 : Int32)) dX9_notes_45 (by decide) ?_
    refine g_istore_n F (lv' := [(1, .int (0 : Int32)), (0, .ref (am 0))]) dX9_notes_46 rfl (by decide) rfl ?_
    refine Go.sub (lv' := [(0, .ref (am 0)), (1, .int (0 : Int32))]) [1, 0] rfl ?_
    refine k_X9_notes_47_ok am (upd Mm 17 (9 : Int32)) m_s F Rq _ (fun m_undos_3 h => ?_) _ (0 : Int32) m_undos_2 h
    refine g_aload_n F dX9_notes_79 rfl 0 rfl ?_
    refine g_dup F dX9_notes_80 rfl ?_
    refine g_get F (C := RX9) (T := TX9) (N := 36) (ci := 9) (v := .int (9 : Int32)) hi_X9_notes_X9 0 0 17 dX9_notes_81 rfl rfl (by decide) fl_X9_notes_158 rfl ?_
    refine g_iconst F (v := (1 : Int32)) dX9_notes_84 (by decide) ?_
    refine g_iadd F dX9_notes_85 ?_
    refine g_put F (C := RX9) (T := TX9) (N := 36) (ci := 9) (v := .int ((9 : Int32) + (1 : Int32))) (ty := .int) (sg' := [(sMod cy am (upd Mm 17 ((9 : Int32) + (1 : Int32)))), (sI cy (am 12) 24 m_s), (sI cy (am 17) 240 m_undos_3)]) hi_X9_notes_X9 tyX9 tyX9_ok nmX9 0 0 17 dX9_notes_86 rfl rfl (by decide) fl_X9_notes_158 rfl rfl rfl rfl (Nat.le_of_ble_eq_true rfl) rfl ?_
    obtain rfl := Option.some.inj h
    exact g_vret F Rq rfl dX9_notes_89
theorem hi_X9_puts_X9 : ∀ w ∈ u_ws RX9 TX9 36, w ∈ wsX9_puts := by decide +kernel
theorem fl_X9_puts_75 : Cond.fieldLink RX9 75 "ArcOrderModel" "thrown" "I" ∈ wsX9_puts := by decide +kernel
theorem fl_X9_puts_16 : Cond.fieldLink RX9 16 "ArcOrderModel" "s" "[I" ∈ wsX9_puts := by decide +kernel
theorem fl_X9_puts_126 : Cond.fieldLink RX9 126 "ArcOrderModel" "closes" "Z" ∈ wsX9_puts := by decide +kernel
theorem fl_X9_puts_145 : Cond.fieldLink RX9 145 "ArcOrderModel" "items" "I" ∈ wsX9_puts := by decide +kernel
abbrev rm_X9_puts : Room := { frames := 3, cells := 0, slots := 0, locals := 74 }
set_option maxHeartbeats 4000000 in
set_option maxRecDepth 100000 in
theorem ok_X9_puts (l : Launch) (D : va_G) (cy : Nat → ClassId) (am : Nat → Nat)  (Mm : ModS) (m_s : (Nat → Int32)) (m_w : (Nat → Int32)) (m_undos : (Nat → Int32)) (m_ring : (Nat → Int32)) (m_far : (Nat → Int32)) (m_order : (Nat → Int32)) (m_tried : (Nat → Int32)) (x1 : Int32) (x2 : Int32) (out : Int32 × ModS × (Nat → Int32) × (Nat → Int32) × (Nat → Int32) × (Nat → Int32) × (Nat → Int32) × (Nat → Int32) × (Nat → Int32)) (h : f_X9_puts Mm m_s m_w m_undos m_ring m_far m_order m_tried x1 x2 = some out) : OK l D cy yX9_puts wsX9_puts rm_X9_puts [.ref (am 0), .int x1, .int x2] [(sMod cy am Mm), (sI cy (am 12) 24 m_s), (sI cy (am 13) 24 m_w), (sI cy (am 17) 240 m_undos), (sI cy (am 22) 12 m_ring), (sI cy (am 30) 12 m_far), (sI cy (am 33) 12 m_order), (sI cy (am 34) 24 m_tried)] (some (.int out.1)) [(sMod cy am out.2.1), (sI cy (am 12) 24 out.2.2.1), (sI cy (am 13) 24 out.2.2.2.1), (sI cy (am 17) 240 out.2.2.2.2.1), (sI cy (am 22) 12 out.2.2.2.2.2.1), (sI cy (am 30) 12 out.2.2.2.2.2.2.1), (sI cy (am 33) 12 out.2.2.2.2.2.2.2.1), (sI cy (am 34) 24 out.2.2.2.2.2.2.2.2)] := by
  refine OKx.of (cc := cX9_puts) (maxL := 4) (ret := (some .int)) (by decide) rfl (Nat.le_of_ble_eq_true rfl) (fun G F Rq => ?_)
  show Go G 0 0 0 [(0, .ref (am 0)), (1, .int x1), (2, .int x2)] [] [(sMod cy am Mm), (sI cy (am 12) 24 m_s), (sI cy (am 13) 24 m_w), (sI cy (am 17) 240 m_undos), (sI cy (am 22) 12 m_ring), (sI cy (am 30) 12 m_far), (sI cy (am 33) 12 m_order), (sI cy (am 34) 24 m_tried)]
  replace F : Fx G cX9_puts wsX9_puts RX9 cy 4 (rm_X9_puts) := F
  replace Rq : Rx G "puts" (some .int) (some (.int out.1)) (fun z => z = [(sMod cy am out.2.1), (sI cy (am 12) 24 out.2.2.1), (sI cy (am 13) 24 out.2.2.2.1), (sI cy (am 17) 240 out.2.2.2.2.1), (sI cy (am 22) 12 out.2.2.2.2.2.1), (sI cy (am 30) 12 out.2.2.2.2.2.2.1), (sI cy (am 33) 12 out.2.2.2.2.2.2.2.1), (sI cy (am 34) 24 out.2.2.2.2.2.2.2.2)]) 0 0 := Rq
  unfold f_X9_puts at h
  refine g_aload_n F dX9_puts_0 rfl 0 rfl ?_
  refine g_iconst F (v := (0 : Int32)) dX9_puts_1 (by decide) ?_
  refine g_put F (C := RX9) (T := TX9) (N := 36) (ci := 9) (v := .int (0 : Int32)) (ty := .int) (sg' := [(sMod cy am (upd Mm 0 (0 : Int32))), (sI cy (am 12) 24 m_s), (sI cy (am 13) 24 m_w), (sI cy (am 17) 240 m_undos), (sI cy (am 22) 12 m_ring), (sI cy (am 30) 12 m_far), (sI cy (am 33) 12 m_order), (sI cy (am 34) 24 m_tried)]) hi_X9_puts_X9 tyX9 tyX9_ok nmX9 0 0 0 dX9_puts_2 rfl rfl (by decide) fl_X9_puts_75 rfl rfl rfl rfl (Nat.le_of_ble_eq_true rfl) rfl ?_
  refine g_aload_n F dX9_puts_5 rfl 0 rfl ?_
  refine g_iload_n F dX9_puts_6 rfl 1 rfl ?_
  refine g_iload_n F dX9_puts_7 rfl 2 rfl ?_
  obtain ⟨r1, hr1, h⟩ := bnd h
  refine g_cV F [.int x1, .int x2] 0 0 (ok_X9_isTwo (gl G) (gD G) cy am (upd Mm 0 (0 : Int32)) x1 x2 r1 hr1) dX9_puts_8 rfl rfl gX9_puts_X9_isTwo rfl ⟨rfl, cd_X9_isTwo⟩ (by decide) rfl (Nat.le_of_ble_eq_true rfl) [0] (by decide) rfl rfl (sg' := [(sMod cy am (upd Mm 0 (0 : Int32))), (sI cy (am 12) 24 m_s), (sI cy (am 13) 24 m_w), (sI cy (am 17) 240 m_undos), (sI cy (am 22) 12 m_ring), (sI cy (am 30) 12 m_far), (sI cy (am 33) 12 m_order), (sI cy (am 34) 24 m_tried)]) (st' := [.int r1]) rfl rfl ?_
  refine g_if_ne F 16 h dX9_puts_11 (by decide) (fun h => ?_) (fun h => ?_)
  · refine g_aload_n F dX9_puts_16 rfl 0 rfl ?_
    refine g_get F (C := RX9) (T := TX9) (N := 36) (ci := 9) (v := .ref (am 12)) hi_X9_puts_X9 0 0 11 dX9_puts_17 rfl rfl (by decide) fl_X9_puts_16 rfl ?_
    refine g_iconst F (v := (0 : Int32)) dX9_puts_20 (by decide) ?_
    refine g_iload_n F dX9_puts_21 rfl 1 rfl ?_
    refine g_iadd F dX9_puts_22 ?_
    refine g_iaload F h 1 0 dX9_puts_23 rfl (fun h => ?_)
    refine g_iload_n F dX9_puts_24 rfl 2 rfl ?_
    obtain ⟨r2, hr2, h⟩ := bnd h
    refine g_cS F [.int (m_s (((0 : Int32) + x1)).toNatClampNeg), .int x2] (ok_X9_has (gl G) (gD G) cy (m_s (((0 : Int32) + x1)).toNatClampNeg) x2 r2 hr2) dX9_puts_25 gX9_puts_X9_has rfl cd_X9_has (by decide) rfl (Nat.le_of_ble_eq_true rfl) [] (by decide) rfl rfl (sg' := [(sMod cy am (upd Mm 0 (0 : Int32))), (sI cy (am 12) 24 m_s), (sI cy (am 13) 24 m_w), (sI cy (am 17) 240 m_undos), (sI cy (am 22) 12 m_ring), (sI cy (am 30) 12 m_far), (sI cy (am 33) 12 m_order), (sI cy (am 34) 24 m_tried)]) (st' := [.int r2]) rfl rfl ?_
    refine g_if_eq F 34 h dX9_puts_28 (by decide) (fun h => ?_) (fun h => ?_)
    · refine g_aload_n F dX9_puts_34 rfl 0 rfl ?_
      refine g_iload_n F dX9_puts_35 rfl 1 rfl ?_
      refine g_iload_n F dX9_puts_36 rfl 2 rfl ?_
      obtain ⟨r3, hr3, h⟩ := bnd h
      refine g_cV F [.int x1, .int x2] 0 0 (ok_X9_movedBy (gl G) (gD G) cy am (upd Mm 0 (0 : Int32)) m_s m_w m_order m_tried x1 x2 r3 hr3) dX9_puts_37 rfl rfl gX9_puts_X9_movedBy rfl ⟨rfl, cd_X9_movedBy⟩ (by decide) rfl (Nat.le_of_ble_eq_true rfl) [0, 1, 2, 6, 7] (by decide) rfl rfl (sg' := [(sMod cy am r3.2.1), (sI cy (am 12) 24 m_s), (sI cy (am 13) 24 r3.2.2.1), (sI cy (am 17) 240 m_undos), (sI cy (am 22) 12 m_ring), (sI cy (am 30) 12 m_far), (sI cy (am 33) 12 r3.2.2.2.1), (sI cy (am 34) 24 r3.2.2.2.2)]) (st' := [.int r3.1]) rfl rfl ?_
      refine g_istore_n F (lv' := [(3, .int r3.1), (0, .ref (am 0)), (1, .int x1), (2, .int x2)]) dX9_puts_40 rfl (by decide) rfl ?_
      refine g_aload_n F dX9_puts_41 rfl 1 rfl ?_
      refine g_get F (C := RX9) (T := TX9) (N := 36) (ci := 9) (v := .int (r3.2.1 28)) hi_X9_puts_X9 0 0 28 dX9_puts_42 rfl rfl (by decide) fl_X9_puts_126 rfl ?_
      refine g_if_eq F 61 h dX9_puts_45 (by decide) (fun h => ?_) (fun h => ?_)
      · refine g_aload_n F dX9_puts_61 rfl 1 rfl ?_
        obtain ⟨r4, hr4, h⟩ := bnd h
        refine g_cV F [] 0 0 (ok_X9_notes (gl G) (gD G) cy am r3.2.1 m_s m_undos r4 hr4) dX9_puts_62 rfl rfl gX9_puts_X9_notes rfl ⟨rfl, cd_X9_notes⟩ (by decide) rfl (Nat.le_of_ble_eq_true rfl) [0, 1, 3] (by decide) rfl rfl (sg' := [(sMod cy am r4.1), (sI cy (am 12) 24 m_s), (sI cy (am 13) 24 r3.2.2.1), (sI cy (am 17) 240 r4.2), (sI cy (am 22) 12 m_ring), (sI cy (am 30) 12 m_far), (sI cy (am 33) 12 r3.2.2.2.1), (sI cy (am 34) 24 r3.2.2.2.2)]) (st' := []) rfl rfl ?_
        refine g_aload_n F dX9_puts_65 rfl 1 rfl ?_
        refine g_aload_n F dX9_puts_66 rfl 1 rfl ?_
        refine g_get F (C := RX9) (T := TX9) (N := 36) (ci := 9) (v := .ref (am 12)) hi_X9_puts_X9 0 0 11 dX9_puts_67 rfl rfl (by decide) fl_X9_puts_16 rfl ?_
        refine g_aload_n F dX9_puts_70 rfl 1 rfl ?_
        refine g_get F (C := RX9) (T := TX9) (N := 36) (ci := 9) (v := .int (r4.1 8)) hi_X9_puts_X9 0 0 8 dX9_puts_71 rfl rfl (by decide) fl_X9_puts_145 rfl ?_
        refine g_iload_n F dX9_puts_74 rfl 2 rfl ?_
        refine g_iload_n F dX9_puts_75 rfl 3 rfl ?_
        obtain ⟨r5, hr5, h⟩ := bnd h
        refine g_cV F [.ref (am 12), .int (r4.1 8), .int x1, .int x2] 0 0 (ok_X9_lays (gl G) (gD G) cy am (am 12) r4.1 r3.2.2.1 r3.2.2.2.1 m_s (r4.1 8) x1 x2 r5 hr5) dX9_puts_76 rfl rfl gX9_puts_X9_lays rfl ⟨rfl, cd_X9_lays⟩ (by decide) rfl (Nat.le_of_ble_eq_true rfl) [0, 2, 6, 1] (by decide) rfl rfl (sg' := [(sMod cy am r5.1), (sI cy (am 12) 24 r5.2.2.2), (sI cy (am 13) 24 r5.2.1), (sI cy (am 17) 240 r4.2), (sI cy (am 22) 12 m_ring), (sI cy (am 30) 12 m_far), (sI cy (am 33) 12 r5.2.2.1), (sI cy (am 34) 24 r3.2.2.2.2)]) (st' := []) rfl rfl ?_
        refine g_iload_n F dX9_puts_79 rfl 0 rfl ?_
        obtain ⟨r6, hr6, h⟩ := bnd h
        refine g_cS F [.int r3.1] (ok_X9_ones (gl G) (gD G) cy r3.1 r6 hr6) dX9_puts_80 gX9_puts_X9_ones rfl cd_X9_ones (by decide) rfl (Nat.le_of_ble_eq_true rfl) [] (by decide) rfl rfl (sg' := [(sMod cy am r5.1), (sI cy (am 12) 24 r5.2.2.2), (sI cy (am 13) 24 r5.2.1), (sI cy (am 17) 240 r4.2), (sI cy (am 22) 12 m_ring), (sI cy (am 30) 12 m_far), (sI cy (am 33) 12 r5.2.2.1), (sI cy (am 34) 24 r3.2.2.2.2)]) (st' := [.int r6]) rfl rfl ?_
        obtain rfl := Option.some.inj h
        exact g_iret F Rq rfl dX9_puts_83
      · refine g_aload_n F dX9_puts_48 rfl 1 rfl ?_
        refine g_aload_n F dX9_puts_49 rfl 1 rfl ?_
        refine g_get F (C := RX9) (T := TX9) (N := 36) (ci := 9) (v := .ref (am 12)) hi_X9_puts_X9 0 0 11 dX9_puts_50 rfl rfl (by decide) fl_X9_puts_16 rfl ?_
        refine g_iload_n F dX9_puts_53 rfl 3 rfl ?_
        refine g_iload_n F dX9_puts_54 rfl 2 rfl ?_
        obtain ⟨r7, hr7, h⟩ := bnd h
        refine g_cV F [.ref (am 12), .int x2, .int x1] 0 0 (ok_X9_rings (gl G) (gD G) cy am (am 12) r3.2.1 m_ring m_far m_s x2 x1 r7 hr7) dX9_puts_55 rfl rfl gX9_puts_X9_rings rfl ⟨rfl, cd_X9_rings⟩ (by decide) rfl (Nat.le_of_ble_eq_true rfl) [0, 4, 5, 1] (by decide) rfl rfl (sg' := [(sMod cy am r7.1), (sI cy (am 12) 24 m_s), (sI cy (am 13) 24 r3.2.2.1), (sI cy (am 17) 240 m_undos), (sI cy (am 22) 12 r7.2.1), (sI cy (am 30) 12 r7.2.2), (sI cy (am 33) 12 r3.2.2.2.1), (sI cy (am 34) 24 r3.2.2.2.2)]) (st' := []) rfl rfl ?_
        refine g_bipush F (v := (-4 : Int32)) dX9_puts_58 (by decide) ?_
        obtain rfl := Option.some.inj h
        exact g_iret F Rq rfl dX9_puts_60
    · refine g_bipush F (v := (-2 : Int32)) dX9_puts_31 (by decide) ?_
      obtain rfl := Option.some.inj h
      exact g_iret F Rq rfl dX9_puts_33
  · refine g_iconst F (v := (-1 : Int32)) dX9_puts_14 (by decide) ?_
    obtain rfl := Option.some.inj h
    exact g_iret F Rq rfl dX9_puts_15
theorem hi_X9_lists_X9 : ∀ w ∈ u_ws RX9 TX9 36, w ∈ wsX9_lists := by decide +kernel
theorem fl_X9_lists_75 : Cond.fieldLink RX9 75 "ArcOrderModel" "thrown" "I" ∈ wsX9_lists := by decide +kernel
theorem fl_X9_lists_16 : Cond.fieldLink RX9 16 "ArcOrderModel" "s" "[I" ∈ wsX9_lists := by decide +kernel
theorem fl_X9_lists_152 : Cond.fieldLink RX9 152 "ArcOrderModel" "listed" "I" ∈ wsX9_lists := by decide +kernel
theorem fl_X9_lists_35 : Cond.fieldLink RX9 35 "ArcOrderModel" "listFrom" "[I" ∈ wsX9_lists := by decide +kernel
theorem fl_X9_lists_38 : Cond.fieldLink RX9 38 "ArcOrderModel" "listTo" "[I" ∈ wsX9_lists := by decide +kernel
abbrev rm_X9_lists : Room := { frames := 3, cells := 0, slots := 0, locals := 65 }
set_option maxHeartbeats 4000000 in
set_option maxRecDepth 100000 in
theorem k_X9_lists_32_ok {G : GX} {cy : Nat → ClassId} (am : Nat → Nat)  (x1 : Int32) (x2 : Int32) (Mm : ModS) (m_s : (Nat → Int32)) (m_listFrom : (Nat → Int32)) (m_listTo : (Nat → Int32)) {out : Int32 × ModS × (Nat → Int32) × (Nat → Int32)} (F : Fx G cX9_lists wsX9_lists RX9 cy 5 (rm_X9_lists)) (Rq : Rx G "lists" (some .int) (some (.int out.1)) (fun z => z = [(sMod cy am out.2.1), (sI cy (am 12) 24 m_s), (sI cy (am 19) 8 out.2.2.1), (sI cy (am 20) 8 out.2.2.2)]) 0 0) (ke : Int32 → Option (Int32 × ModS × (Nat → Int32) × (Nat → Int32))) (hke : ∀ (x3 : Int32) , ke x3 = some out → Go G 0 0 79 [(0, .ref (am 0)), (1, .int x1), (2, .int x2), (3, .int x3)] [] [(sMod cy am Mm), (sI cy (am 12) 24 m_s), (sI cy (am 19) 8 m_listFrom), (sI cy (am 20) 8 m_listTo)]) : ∀ (n : Nat) (x3 : Int32) (x4 : Int32) , k_X9_lists_32 x1 x2 Mm m_s m_listFrom m_listTo ke n x3 x4 = some out → Go G 0 0 32 [(0, .ref (am 0)), (1, .int x1), (2, .int x2), (3, .int x3), (4, .int x4)] [] [(sMod cy am Mm), (sI cy (am 12) 24 m_s), (sI cy (am 19) 8 m_listFrom), (sI cy (am 20) 8 m_listTo)] := by
  intro n
  induction n with
  | zero =>
    intro x3 x4 h
    exact nosome h
  | succ n ih =>
    intro x3 x4 h
    rw [k_X9_lists_32.eq_2] at h
    refine g_iload F dX9_lists_32 4 rfl ?_
    refine g_aload_n F dX9_lists_34 rfl 0 rfl ?_
    refine g_get F (C := RX9) (T := TX9) (N := 36) (ci := 9) (v := .int (Mm 20)) hi_X9_lists_X9 0 0 20 dX9_lists_35 rfl rfl (by decide) fl_X9_lists_152 rfl ?_
    refine g_icmp_ge F 79 h dX9_lists_38 (by decide) (fun h => ?_) (fun h => ?_)
    · refine Go.sub (lv' := [(0, .ref (am 0)), (1, .int x1), (2, .int x2), (3, .int x3)]) [0, 1, 2, 3] rfl ?_
      exact hke x3 h
    · refine g_iload_n F dX9_lists_41 rfl 3 rfl ?_
      refine g_if_ne F 67 h dX9_lists_42 (by decide) (fun h => ?_) (fun h => ?_)
      · refine g_iconst F (v := (1 : Int32)) dX9_lists_67 (by decide) ?_
        refine g_goto F 72 dX9_lists_68 (by decide) ?_
        refine g_istore_n F (lv' := [(3, .int (1 : Int32)), (0, .ref (am 0)), (1, .int x1), (2, .int x2), (4, .int x4)]) dX9_lists_72 rfl (by decide) rfl ?_
        refine g_iinc F (v := (x4 + 1)) (lv' := [(4, .int (x4 + 1)), (3, .int (1 : Int32)), (0, .ref (am 0)), (1, .int x1), (2, .int x2)]) dX9_lists_73 4 rfl rfl (by decide) rfl ?_
        refine g_goto F 32 dX9_lists_76 (by decide) ?_
        refine Go.sub (lv' := [(0, .ref (am 0)), (1, .int x1), (2, .int x2), (3, .int (1 : Int32)), (4, .int (x4 + 1))]) [2, 3, 4, 1, 0] rfl ?_
        exact ih (1 : Int32) (x4 + 1) h
      · refine g_aload_n F dX9_lists_45 rfl 0 rfl ?_
        refine g_get F (C := RX9) (T := TX9) (N := 36) (ci := 9) (v := .ref (am 19)) hi_X9_lists_X9 0 0 18 dX9_lists_46 rfl rfl (by decide) fl_X9_lists_35 rfl ?_
        refine g_iload F dX9_lists_49 4 rfl ?_
        refine g_iaload F h 2 0 dX9_lists_51 rfl (fun h => ?_)
        refine g_iload_n F dX9_lists_52 rfl 1 rfl ?_
        refine g_icmp_ne F 71 h dX9_lists_53 (by decide) (fun h => ?_) (fun h => ?_)
        · refine g_iconst F (v := (0 : Int32)) dX9_lists_71 (by decide) ?_
          refine g_istore_n F (lv' := [(3, .int (0 : Int32)), (0, .ref (am 0)), (1, .int x1), (2, .int x2), (4, .int x4)]) dX9_lists_72 rfl (by decide) rfl ?_
          refine g_iinc F (v := (x4 + 1)) (lv' := [(4, .int (x4 + 1)), (3, .int (0 : Int32)), (0, .ref (am 0)), (1, .int x1), (2, .int x2)]) dX9_lists_73 4 rfl rfl (by decide) rfl ?_
          refine g_goto F 32 dX9_lists_76 (by decide) ?_
          refine Go.sub (lv' := [(0, .ref (am 0)), (1, .int x1), (2, .int x2), (3, .int (0 : Int32)), (4, .int (x4 + 1))]) [2, 3, 4, 1, 0] rfl ?_
          exact ih (0 : Int32) (x4 + 1) h
        · refine g_aload_n F dX9_lists_56 rfl 0 rfl ?_
          refine g_get F (C := RX9) (T := TX9) (N := 36) (ci := 9) (v := .ref (am 20)) hi_X9_lists_X9 0 0 19 dX9_lists_57 rfl rfl (by decide) fl_X9_lists_38 rfl ?_
          refine g_iload F dX9_lists_60 4 rfl ?_
          refine g_iaload F h 3 0 dX9_lists_62 rfl (fun h => ?_)
          refine g_iload_n F dX9_lists_63 rfl 2 rfl ?_
          refine g_icmp_ne F 71 h dX9_lists_64 (by decide) (fun h => ?_) (fun h => ?_)
          · refine g_iconst F (v := (0 : Int32)) dX9_lists_71 (by decide) ?_
            refine g_istore_n F (lv' := [(3, .int (0 : Int32)), (0, .ref (am 0)), (1, .int x1), (2, .int x2), (4, .int x4)]) dX9_lists_72 rfl (by decide) rfl ?_
            refine g_iinc F (v := (x4 + 1)) (lv' := [(4, .int (x4 + 1)), (3, .int (0 : Int32)), (0, .ref (am 0)), (1, .int x1), (2, .int x2)]) dX9_lists_73 4 rfl rfl (by decide) rfl ?_
            refine g_goto F 32 dX9_lists_76 (by decide) ?_
            refine Go.sub (lv' := [(0, .ref (am 0)), (1, .int x1), (2, .int x2), (3, .int (0 : Int32)), (4, .int (x4 + 1))]) [2, 3, 4, 1, 0] rfl ?_
            exact ih (0 : Int32) (x4 + 1) h
          · refine g_iconst F (v := (1 : Int32)) dX9_lists_67 (by decide) ?_
            refine g_goto F 72 dX9_lists_68 (by decide) ?_
            refine g_istore_n F (lv' := [(3, .int (1 : Int32)), (0, .ref (am 0)), (1, .int x1), (2, .int x2), (4, .int x4)]) dX9_lists_72 rfl (by decide) rfl ?_
            refine g_iinc F (v := (x4 + 1)) (lv' := [(4, .int (x4 + 1)), (3, .int (1 : Int32)), (0, .ref (am 0)), (1, .int x1), (2, .int x2)]) dX9_lists_73 4 rfl rfl (by decide) rfl ?_
            refine g_goto F 32 dX9_lists_76 (by decide) ?_
            refine Go.sub (lv' := [(0, .ref (am 0)), (1, .int x1), (2, .int x2), (3, .int (1 : Int32)), (4, .int (x4 + 1))]) [2, 3, 4, 1, 0] rfl ?_
            exact ih (1 : Int32) (x4 + 1) h
set_option maxHeartbeats 4000000 in
set_option maxRecDepth 100000 in
theorem ok_X9_lists (l : Launch) (D : va_G) (cy : Nat → ClassId) (am : Nat → Nat)  (Mm : ModS) (m_s : (Nat → Int32)) (m_listFrom : (Nat → Int32)) (m_listTo : (Nat → Int32)) (x1 : Int32) (x2 : Int32) (out : Int32 × ModS × (Nat → Int32) × (Nat → Int32)) (h : f_X9_lists Mm m_s m_listFrom m_listTo x1 x2 = some out) : OK l D cy yX9_lists wsX9_lists rm_X9_lists [.ref (am 0), .int x1, .int x2] [(sMod cy am Mm), (sI cy (am 12) 24 m_s), (sI cy (am 19) 8 m_listFrom), (sI cy (am 20) 8 m_listTo)] (some (.int out.1)) [(sMod cy am out.2.1), (sI cy (am 12) 24 m_s), (sI cy (am 19) 8 out.2.2.1), (sI cy (am 20) 8 out.2.2.2)] := by
  refine OKx.of (cc := cX9_lists) (maxL := 5) (ret := (some .int)) (by decide) rfl (Nat.le_of_ble_eq_true rfl) (fun G F Rq => ?_)
  show Go G 0 0 0 [(0, .ref (am 0)), (1, .int x1), (2, .int x2)] [] [(sMod cy am Mm), (sI cy (am 12) 24 m_s), (sI cy (am 19) 8 m_listFrom), (sI cy (am 20) 8 m_listTo)]
  replace F : Fx G cX9_lists wsX9_lists RX9 cy 5 (rm_X9_lists) := F
  replace Rq : Rx G "lists" (some .int) (some (.int out.1)) (fun z => z = [(sMod cy am out.2.1), (sI cy (am 12) 24 m_s), (sI cy (am 19) 8 out.2.2.1), (sI cy (am 20) 8 out.2.2.2)]) 0 0 := Rq
  unfold f_X9_lists at h
  refine g_aload_n F dX9_lists_0 rfl 0 rfl ?_
  refine g_iconst F (v := (0 : Int32)) dX9_lists_1 (by decide) ?_
  refine g_put F (C := RX9) (T := TX9) (N := 36) (ci := 9) (v := .int (0 : Int32)) (ty := .int) (sg' := [(sMod cy am (upd Mm 0 (0 : Int32))), (sI cy (am 12) 24 m_s), (sI cy (am 19) 8 m_listFrom), (sI cy (am 20) 8 m_listTo)]) hi_X9_lists_X9 tyX9 tyX9_ok nmX9 0 0 0 dX9_lists_2 rfl rfl (by decide) fl_X9_lists_75 rfl rfl rfl rfl (Nat.le_of_ble_eq_true rfl) rfl ?_
  refine g_aload_n F dX9_lists_5 rfl 0 rfl ?_
  refine g_iload_n F dX9_lists_6 rfl 1 rfl ?_
  refine g_iload_n F dX9_lists_7 rfl 2 rfl ?_
  obtain ⟨r1, hr1, h⟩ := bnd h
  refine g_cV F [.int x1, .int x2] 0 0 (ok_X9_isTwo (gl G) (gD G) cy am (upd Mm 0 (0 : Int32)) x1 x2 r1 hr1) dX9_lists_8 rfl rfl gX9_lists_X9_isTwo rfl ⟨rfl, cd_X9_isTwo⟩ (by decide) rfl (Nat.le_of_ble_eq_true rfl) [0] (by decide) rfl rfl (sg' := [(sMod cy am (upd Mm 0 (0 : Int32))), (sI cy (am 12) 24 m_s), (sI cy (am 19) 8 m_listFrom), (sI cy (am 20) 8 m_listTo)]) (st' := [.int r1]) rfl rfl ?_
  refine g_if_ne F 16 h dX9_lists_11 (by decide) (fun h => ?_) (fun h => ?_)
  · refine g_aload_n F dX9_lists_16 rfl 0 rfl ?_
    refine g_get F (C := RX9) (T := TX9) (N := 36) (ci := 9) (v := .ref (am 12)) hi_X9_lists_X9 0 0 11 dX9_lists_17 rfl rfl (by decide) fl_X9_lists_16 rfl ?_
    refine g_iconst F (v := (0 : Int32)) dX9_lists_20 (by decide) ?_
    refine g_iload_n F dX9_lists_21 rfl 1 rfl ?_
    refine g_iadd F dX9_lists_22 ?_
    refine g_iaload F h 1 0 dX9_lists_23 rfl (fun h => ?_)
    refine g_iload_n F dX9_lists_24 rfl 2 rfl ?_
    obtain ⟨r2, hr2, h⟩ := bnd h
    refine g_cS F [.int (m_s (((0 : Int32) + x1)).toNatClampNeg), .int x2] (ok_X9_has (gl G) (gD G) cy (m_s (((0 : Int32) + x1)).toNatClampNeg) x2 r2 hr2) dX9_lists_25 gX9_lists_X9_has rfl cd_X9_has (by decide) rfl (Nat.le_of_ble_eq_true rfl) [] (by decide) rfl rfl (sg' := [(sMod cy am (upd Mm 0 (0 : Int32))), (sI cy (am 12) 24 m_s), (sI cy (am 19) 8 m_listFrom), (sI cy (am 20) 8 m_listTo)]) (st' := [.int r2]) rfl rfl ?_
    refine g_istore_n F (lv' := [(3, .int r2), (0, .ref (am 0)), (1, .int x1), (2, .int x2)]) dX9_lists_28 rfl (by decide) rfl ?_
    refine g_iconst F (v := (0 : Int32)) dX9_lists_29 (by decide) ?_
    refine g_istore F (lv' := [(4, .int (0 : Int32)), (3, .int r2), (0, .ref (am 0)), (1, .int x1), (2, .int x2)]) dX9_lists_30 (by decide) rfl ?_
    refine Go.sub (lv' := [(0, .ref (am 0)), (1, .int x1), (2, .int x2), (3, .int r2), (4, .int (0 : Int32))]) [2, 3, 4, 1, 0] rfl ?_
    refine k_X9_lists_32_ok am x1 x2 (upd Mm 0 (0 : Int32)) m_s m_listFrom m_listTo F Rq _ (fun x3_3 h => ?_) _ r2 (0 : Int32) h
    refine g_iload_n F dX9_lists_79 rfl 3 rfl ?_
    refine g_if_eq F 86 h dX9_lists_80 (by decide) (fun h => ?_) (fun h => ?_)
    · refine g_aload_n F dX9_lists_86 rfl 0 rfl ?_
      refine g_get F (C := RX9) (T := TX9) (N := 36) (ci := 9) (v := .int (Mm 20)) hi_X9_lists_X9 0 0 20 dX9_lists_87 rfl rfl (by decide) fl_X9_lists_152 rfl ?_
      refine g_bipush F (v := (8 : Int32)) dX9_lists_90 (by decide) ?_
      refine g_icmp_ne F 98 h dX9_lists_92 (by decide) (fun h => ?_) (fun h => ?_)
      · refine g_aload_n F dX9_lists_98 rfl 0 rfl ?_
        refine g_get F (C := RX9) (T := TX9) (N := 36) (ci := 9) (v := .ref (am 19)) hi_X9_lists_X9 0 0 18 dX9_lists_99 rfl rfl (by decide) fl_X9_lists_35 rfl ?_
        refine g_aload_n F dX9_lists_102 rfl 0 rfl ?_
        refine g_get F (C := RX9) (T := TX9) (N := 36) (ci := 9) (v := .int (Mm 20)) hi_X9_lists_X9 0 0 20 dX9_lists_103 rfl rfl (by decide) fl_X9_lists_152 rfl ?_
        refine g_iload_n F dX9_lists_106 rfl 1 rfl ?_
        refine g_iastore F h (sg' := [(sMod cy am (upd Mm 0 (0 : Int32))), (sI cy (am 12) 24 m_s), (sI cy (am 19) 8 (upd m_listFrom ((Mm 20)).toNatClampNeg x1)), (sI cy (am 20) 8 m_listTo)]) 2 0 dX9_lists_107 rfl rfl (fun h => ?_)
        refine g_aload_n F dX9_lists_108 rfl 0 rfl ?_
        refine g_get F (C := RX9) (T := TX9) (N := 36) (ci := 9) (v := .ref (am 20)) hi_X9_lists_X9 0 0 19 dX9_lists_109 rfl rfl (by decide) fl_X9_lists_38 rfl ?_
        refine g_aload_n F dX9_lists_112 rfl 0 rfl ?_
        refine g_get F (C := RX9) (T := TX9) (N := 36) (ci := 9) (v := .int (Mm 20)) hi_X9_lists_X9 0 0 20 dX9_lists_113 rfl rfl (by decide) fl_X9_lists_152 rfl ?_
        refine g_iload_n F dX9_lists_116 rfl 2 rfl ?_
        refine g_iastore F h (sg' := [(sMod cy am (upd Mm 0 (0 : Int32))), (sI cy (am 12) 24 m_s), (sI cy (am 19) 8 (upd m_listFrom ((Mm 20)).toNatClampNeg x1)), (sI cy (am 20) 8 (upd m_listTo ((Mm 20)).toNatClampNeg x2))]) 3 0 dX9_lists_117 rfl rfl (fun h => ?_)
        refine g_aload_n F dX9_lists_118 rfl 0 rfl ?_
        refine g_dup F dX9_lists_119 rfl ?_
        refine g_get F (C := RX9) (T := TX9) (N := 36) (ci := 9) (v := .int (Mm 20)) hi_X9_lists_X9 0 0 20 dX9_lists_120 rfl rfl (by decide) fl_X9_lists_152 rfl ?_
        refine g_iconst F (v := (1 : Int32)) dX9_lists_123 (by decide) ?_
        refine g_iadd F dX9_lists_124 ?_
        refine g_put F (C := RX9) (T := TX9) (N := 36) (ci := 9) (v := .int ((Mm 20) + (1 : Int32))) (ty := .int) (sg' := [(sMod cy am (upd (upd Mm 0 (0 : Int32)) 20 ((Mm 20) + (1 : Int32)))), (sI cy (am 12) 24 m_s), (sI cy (am 19) 8 (upd m_listFrom ((Mm 20)).toNatClampNeg x1)), (sI cy (am 20) 8 (upd m_listTo ((Mm 20)).toNatClampNeg x2))]) hi_X9_lists_X9 tyX9 tyX9_ok nmX9 0 0 20 dX9_lists_125 rfl rfl (by decide) fl_X9_lists_152 rfl rfl rfl rfl (Nat.le_of_ble_eq_true rfl) rfl ?_
        refine g_aload_n F dX9_lists_128 rfl 0 rfl ?_
        refine g_get F (C := RX9) (T := TX9) (N := 36) (ci := 9) (v := .int ((Mm 20) + (1 : Int32))) hi_X9_lists_X9 0 0 20 dX9_lists_129 rfl rfl (by decide) fl_X9_lists_152 rfl ?_
        obtain rfl := Option.some.inj h
        exact g_iret F Rq rfl dX9_lists_132
      · refine g_bipush F (v := (-3 : Int32)) dX9_lists_95 (by decide) ?_
        obtain rfl := Option.some.inj h
        exact g_iret F Rq rfl dX9_lists_97
    · refine g_bipush F (v := (-2 : Int32)) dX9_lists_83 (by decide) ?_
      obtain rfl := Option.some.inj h
      exact g_iret F Rq rfl dX9_lists_85
  · refine g_iconst F (v := (-1 : Int32)) dX9_lists_14 (by decide) ?_
    obtain rfl := Option.some.inj h
    exact g_iret F Rq rfl dX9_lists_15
theorem hi_X9_adds_X9 : ∀ w ∈ u_ws RX9 TX9 36, w ∈ wsX9_adds := by decide +kernel
theorem fl_X9_adds_75 : Cond.fieldLink RX9 75 "ArcOrderModel" "thrown" "I" ∈ wsX9_adds := by decide +kernel
theorem fl_X9_adds_152 : Cond.fieldLink RX9 152 "ArcOrderModel" "listed" "I" ∈ wsX9_adds := by decide +kernel
theorem fl_X9_adds_16 : Cond.fieldLink RX9 16 "ArcOrderModel" "s" "[I" ∈ wsX9_adds := by decide +kernel
theorem fl_X9_adds_35 : Cond.fieldLink RX9 35 "ArcOrderModel" "listFrom" "[I" ∈ wsX9_adds := by decide +kernel
theorem fl_X9_adds_38 : Cond.fieldLink RX9 38 "ArcOrderModel" "listTo" "[I" ∈ wsX9_adds := by decide +kernel
theorem fl_X9_adds_22 : Cond.fieldLink RX9 22 "ArcOrderModel" "was" "[I" ∈ wsX9_adds := by decide +kernel
theorem fl_X9_adds_145 : Cond.fieldLink RX9 145 "ArcOrderModel" "items" "I" ∈ wsX9_adds := by decide +kernel
theorem fl_X9_adds_126 : Cond.fieldLink RX9 126 "ArcOrderModel" "closes" "Z" ∈ wsX9_adds := by decide +kernel
abbrev rm_X9_adds : Room := { frames := 3, cells := 0, slots := 0, locals := 74 }
set_option maxHeartbeats 4000000 in
set_option maxRecDepth 100000 in
theorem k_X9_adds_20_ok {G : GX} {cy : Nat → ClassId} (am : Nat → Nat)   (Mm : ModS) (m_s : (Nat → Int32)) (m_w : (Nat → Int32)) (m_was : (Nat → Int32)) (m_undos : (Nat → Int32)) (m_listFrom : (Nat → Int32)) (m_listTo : (Nat → Int32)) (m_ring : (Nat → Int32)) (m_far : (Nat → Int32)) (m_order : (Nat → Int32)) {out : Int32 × ModS × (Nat → Int32) × (Nat → Int32) × (Nat → Int32) × (Nat → Int32) × (Nat → Int32) × (Nat → Int32) × (Nat → Int32)} (F : Fx G cX9_adds wsX9_adds RX9 cy 3 (rm_X9_adds)) (Rq : Rx G "adds" (some .int) (some (.int out.1)) (fun z => z = [(sMod cy am out.2.1), (sI cy (am 12) 24 out.2.2.1), (sI cy (am 13) 24 out.2.2.2.1), (sI cy (am 14) 24 out.2.2.2.2.1), (sI cy (am 17) 240 out.2.2.2.2.2.1), (sI cy (am 19) 8 m_listFrom), (sI cy (am 20) 8 m_listTo), (sI cy (am 22) 12 out.2.2.2.2.2.2.1), (sI cy (am 30) 12 out.2.2.2.2.2.2.2.1), (sI cy (am 33) 12 out.2.2.2.2.2.2.2.2)]) 0 0) (ke : Int32 → Option (Int32 × ModS × (Nat → Int32) × (Nat → Int32) × (Nat → Int32) × (Nat → Int32) × (Nat → Int32) × (Nat → Int32) × (Nat → Int32))) (hke : ∀ (x1 : Int32) , ke x1 = some out → Go G 0 0 69 [(0, .ref (am 0)), (1, .int x1)] [] [(sMod cy am Mm), (sI cy (am 12) 24 m_s), (sI cy (am 13) 24 m_w), (sI cy (am 14) 24 m_was), (sI cy (am 17) 240 m_undos), (sI cy (am 19) 8 m_listFrom), (sI cy (am 20) 8 m_listTo), (sI cy (am 22) 12 m_ring), (sI cy (am 30) 12 m_far), (sI cy (am 33) 12 m_order)]) : ∀ (n : Nat) (x1 : Int32) (x2 : Int32) , k_X9_adds_20 Mm m_s m_w m_was m_undos m_listFrom m_listTo m_ring m_far m_order ke n x1 x2 = some out → Go G 0 0 20 [(0, .ref (am 0)), (1, .int x1), (2, .int x2)] [] [(sMod cy am Mm), (sI cy (am 12) 24 m_s), (sI cy (am 13) 24 m_w), (sI cy (am 14) 24 m_was), (sI cy (am 17) 240 m_undos), (sI cy (am 19) 8 m_listFrom), (sI cy (am 20) 8 m_listTo), (sI cy (am 22) 12 m_ring), (sI cy (am 30) 12 m_far), (sI cy (am 33) 12 m_order)] := by
  intro n
  induction n with
  | zero =>
    intro x1 x2 h
    exact nosome h
  | succ n ih =>
    intro x1 x2 h
    rw [k_X9_adds_20.eq_2] at h
    refine g_iload_n F dX9_adds_20 rfl 2 rfl ?_
    refine g_aload_n F dX9_adds_21 rfl 0 rfl ?_
    refine g_get F (C := RX9) (T := TX9) (N := 36) (ci := 9) (v := .int (Mm 20)) hi_X9_adds_X9 0 0 20 dX9_adds_22 rfl rfl (by decide) fl_X9_adds_152 rfl ?_
    refine g_icmp_ge F 69 h dX9_adds_25 (by decide) (fun h => ?_) (fun h => ?_)
    · refine Go.sub (lv' := [(0, .ref (am 0)), (1, .int x1)]) [0, 1] rfl ?_
      exact hke x1 h
    · refine g_iload_n F dX9_adds_28 rfl 1 rfl ?_
      refine g_if_ne F 57 h dX9_adds_29 (by decide) (fun h => ?_) (fun h => ?_)
      · refine g_iconst F (v := (1 : Int32)) dX9_adds_57 (by decide) ?_
        refine g_goto F 62 dX9_adds_58 (by decide) ?_
        refine g_istore_n F (lv' := [(1, .int (1 : Int32)), (0, .ref (am 0)), (2, .int x2)]) dX9_adds_62 rfl (by decide) rfl ?_
        refine g_iinc F (v := (x2 + 1)) (lv' := [(2, .int (x2 + 1)), (1, .int (1 : Int32)), (0, .ref (am 0))]) dX9_adds_63 2 rfl rfl (by decide) rfl ?_
        refine g_goto F 20 dX9_adds_66 (by decide) ?_
        refine Go.sub (lv' := [(0, .ref (am 0)), (1, .int (1 : Int32)), (2, .int (x2 + 1))]) [2, 1, 0] rfl ?_
        exact ih (1 : Int32) (x2 + 1) h
      · refine g_aload_n F dX9_adds_32 rfl 0 rfl ?_
        refine g_get F (C := RX9) (T := TX9) (N := 36) (ci := 9) (v := .ref (am 12)) hi_X9_adds_X9 0 0 11 dX9_adds_33 rfl rfl (by decide) fl_X9_adds_16 rfl ?_
        refine g_iconst F (v := (0 : Int32)) dX9_adds_36 (by decide) ?_
        refine g_aload_n F dX9_adds_37 rfl 0 rfl ?_
        refine g_get F (C := RX9) (T := TX9) (N := 36) (ci := 9) (v := .ref (am 19)) hi_X9_adds_X9 0 0 18 dX9_adds_38 rfl rfl (by decide) fl_X9_adds_35 rfl ?_
        refine g_iload_n F dX9_adds_41 rfl 2 rfl ?_
        refine g_iaload F h 5 0 dX9_adds_42 rfl (fun h => ?_)
        refine g_iadd F dX9_adds_43 ?_
        refine g_iaload F h 1 0 dX9_adds_44 rfl (fun h => ?_)
        refine g_aload_n F dX9_adds_45 rfl 0 rfl ?_
        refine g_get F (C := RX9) (T := TX9) (N := 36) (ci := 9) (v := .ref (am 20)) hi_X9_adds_X9 0 0 19 dX9_adds_46 rfl rfl (by decide) fl_X9_adds_38 rfl ?_
        refine g_iload_n F dX9_adds_49 rfl 2 rfl ?_
        refine g_iaload F h 6 0 dX9_adds_50 rfl (fun h => ?_)
        obtain ⟨r1, hr1, h⟩ := bnd h
        refine g_cS F [.int (m_s (((0 : Int32) + (m_listFrom (x2).toNatClampNeg))).toNatClampNeg), .int (m_listTo (x2).toNatClampNeg)] (ok_X9_has (gl G) (gD G) cy (m_s (((0 : Int32) + (m_listFrom (x2).toNatClampNeg))).toNatClampNeg) (m_listTo (x2).toNatClampNeg) r1 hr1) dX9_adds_51 gX9_adds_X9_has rfl cd_X9_has (by decide) rfl (Nat.le_of_ble_eq_true rfl) [] (by decide) rfl rfl (sg' := [(sMod cy am Mm), (sI cy (am 12) 24 m_s), (sI cy (am 13) 24 m_w), (sI cy (am 14) 24 m_was), (sI cy (am 17) 240 m_undos), (sI cy (am 19) 8 m_listFrom), (sI cy (am 20) 8 m_listTo), (sI cy (am 22) 12 m_ring), (sI cy (am 30) 12 m_far), (sI cy (am 33) 12 m_order)]) (st' := [.int r1]) rfl rfl ?_
        refine g_if_eq F 61 h dX9_adds_54 (by decide) (fun h => ?_) (fun h => ?_)
        · refine g_iconst F (v := (0 : Int32)) dX9_adds_61 (by decide) ?_
          refine g_istore_n F (lv' := [(1, .int (0 : Int32)), (0, .ref (am 0)), (2, .int x2)]) dX9_adds_62 rfl (by decide) rfl ?_
          refine g_iinc F (v := (x2 + 1)) (lv' := [(2, .int (x2 + 1)), (1, .int (0 : Int32)), (0, .ref (am 0))]) dX9_adds_63 2 rfl rfl (by decide) rfl ?_
          refine g_goto F 20 dX9_adds_66 (by decide) ?_
          refine Go.sub (lv' := [(0, .ref (am 0)), (1, .int (0 : Int32)), (2, .int (x2 + 1))]) [2, 1, 0] rfl ?_
          exact ih (0 : Int32) (x2 + 1) h
        · refine g_iconst F (v := (1 : Int32)) dX9_adds_57 (by decide) ?_
          refine g_goto F 62 dX9_adds_58 (by decide) ?_
          refine g_istore_n F (lv' := [(1, .int (1 : Int32)), (0, .ref (am 0)), (2, .int x2)]) dX9_adds_62 rfl (by decide) rfl ?_
          refine g_iinc F (v := (x2 + 1)) (lv' := [(2, .int (x2 + 1)), (1, .int (1 : Int32)), (0, .ref (am 0))]) dX9_adds_63 2 rfl rfl (by decide) rfl ?_
          refine g_goto F 20 dX9_adds_66 (by decide) ?_
          refine Go.sub (lv' := [(0, .ref (am 0)), (1, .int (1 : Int32)), (2, .int (x2 + 1))]) [2, 1, 0] rfl ?_
          exact ih (1 : Int32) (x2 + 1) h
set_option maxHeartbeats 4000000 in
set_option maxRecDepth 100000 in
theorem k_X9_adds_89_ok {G : GX} {cy : Nat → ClassId} (am : Nat → Nat)   (m_s : (Nat → Int32)) (m_undos : (Nat → Int32)) (m_listFrom : (Nat → Int32)) (m_listTo : (Nat → Int32)) {out : Int32 × ModS × (Nat → Int32) × (Nat → Int32) × (Nat → Int32) × (Nat → Int32) × (Nat → Int32) × (Nat → Int32) × (Nat → Int32)} (F : Fx G cX9_adds wsX9_adds RX9 cy 3 (rm_X9_adds)) (Rq : Rx G "adds" (some .int) (some (.int out.1)) (fun z => z = [(sMod cy am out.2.1), (sI cy (am 12) 24 out.2.2.1), (sI cy (am 13) 24 out.2.2.2.1), (sI cy (am 14) 24 out.2.2.2.2.1), (sI cy (am 17) 240 out.2.2.2.2.2.1), (sI cy (am 19) 8 m_listFrom), (sI cy (am 20) 8 m_listTo), (sI cy (am 22) 12 out.2.2.2.2.2.2.1), (sI cy (am 30) 12 out.2.2.2.2.2.2.2.1), (sI cy (am 33) 12 out.2.2.2.2.2.2.2.2)]) 0 0) (ke : ModS → (Nat → Int32) → (Nat → Int32) → (Nat → Int32) → (Nat → Int32) → (Nat → Int32) → Option (Int32 × ModS × (Nat → Int32) × (Nat → Int32) × (Nat → Int32) × (Nat → Int32) × (Nat → Int32) × (Nat → Int32) × (Nat → Int32))) (hke : ∀  (Mm : ModS) (m_w : (Nat → Int32)) (m_was : (Nat → Int32)) (m_ring : (Nat → Int32)) (m_far : (Nat → Int32)) (m_order : (Nat → Int32)), ke Mm m_w m_was m_ring m_far m_order = some out → Go G 0 0 186 [(0, .ref (am 0))] [] [(sMod cy am Mm), (sI cy (am 12) 24 m_s), (sI cy (am 13) 24 m_w), (sI cy (am 14) 24 m_was), (sI cy (am 17) 240 m_undos), (sI cy (am 19) 8 m_listFrom), (sI cy (am 20) 8 m_listTo), (sI cy (am 22) 12 m_ring), (sI cy (am 30) 12 m_far), (sI cy (am 33) 12 m_order)]) : ∀ (n : Nat) (x2 : Int32) (Mm : ModS) (m_w : (Nat → Int32)) (m_was : (Nat → Int32)) (m_ring : (Nat → Int32)) (m_far : (Nat → Int32)) (m_order : (Nat → Int32)), k_X9_adds_89 m_s m_undos m_listFrom m_listTo ke n x2 Mm m_w m_was m_ring m_far m_order = some out → Go G 0 0 89 [(0, .ref (am 0)), (2, .int x2)] [] [(sMod cy am Mm), (sI cy (am 12) 24 m_s), (sI cy (am 13) 24 m_w), (sI cy (am 14) 24 m_was), (sI cy (am 17) 240 m_undos), (sI cy (am 19) 8 m_listFrom), (sI cy (am 20) 8 m_listTo), (sI cy (am 22) 12 m_ring), (sI cy (am 30) 12 m_far), (sI cy (am 33) 12 m_order)] := by
  intro n
  induction n with
  | zero =>
    intro x2 Mm m_w m_was m_ring m_far m_order h
    exact nosome h
  | succ n ih =>
    intro x2 Mm m_w m_was m_ring m_far m_order h
    rw [k_X9_adds_89.eq_2] at h
    refine g_iload_n F dX9_adds_89 rfl 1 rfl ?_
    refine g_aload_n F dX9_adds_90 rfl 0 rfl ?_
    refine g_get F (C := RX9) (T := TX9) (N := 36) (ci := 9) (v := .int (Mm 20)) hi_X9_adds_X9 0 0 20 dX9_adds_91 rfl rfl (by decide) fl_X9_adds_152 rfl ?_
    refine g_icmp_ge F 186 h dX9_adds_94 (by decide) (fun h => ?_) (fun h => ?_)
    · refine Go.sub (lv' := [(0, .ref (am 0))]) [0] rfl ?_
      exact hke Mm m_w m_was m_ring m_far m_order h
    · refine g_aload_n F dX9_adds_97 rfl 0 rfl ?_
      refine g_aload_n F dX9_adds_98 rfl 0 rfl ?_
      refine g_get F (C := RX9) (T := TX9) (N := 36) (ci := 9) (v := .ref (am 14)) hi_X9_adds_X9 0 0 13 dX9_adds_99 rfl rfl (by decide) fl_X9_adds_22 rfl ?_
      refine g_aload_n F dX9_adds_102 rfl 0 rfl ?_
      refine g_get F (C := RX9) (T := TX9) (N := 36) (ci := 9) (v := .int (Mm 8)) hi_X9_adds_X9 0 0 8 dX9_adds_103 rfl rfl (by decide) fl_X9_adds_145 rfl ?_
      refine g_aload_n F dX9_adds_106 rfl 0 rfl ?_
      refine g_get F (C := RX9) (T := TX9) (N := 36) (ci := 9) (v := .ref (am 19)) hi_X9_adds_X9 0 0 18 dX9_adds_107 rfl rfl (by decide) fl_X9_adds_35 rfl ?_
      refine g_iload_n F dX9_adds_110 rfl 1 rfl ?_
      refine g_iaload F h 5 0 dX9_adds_111 rfl (fun h => ?_)
      refine g_aload_n F dX9_adds_112 rfl 0 rfl ?_
      refine g_get F (C := RX9) (T := TX9) (N := 36) (ci := 9) (v := .ref (am 20)) hi_X9_adds_X9 0 0 19 dX9_adds_113 rfl rfl (by decide) fl_X9_adds_38 rfl ?_
      refine g_iload_n F dX9_adds_116 rfl 1 rfl ?_
      refine g_iaload F h 6 0 dX9_adds_117 rfl (fun h => ?_)
      obtain ⟨r4, hr4, h⟩ := bnd h
      refine g_cV F [.ref (am 14), .int (Mm 8), .int (m_listFrom (x2).toNatClampNeg), .int (m_listTo (x2).toNatClampNeg)] 0 0 (ok_X9_looks (gl G) (gD G) cy am (am 14) Mm m_was (Mm 8) (m_listFrom (x2).toNatClampNeg) (m_listTo (x2).toNatClampNeg) r4 hr4) dX9_adds_118 rfl rfl gX9_adds_X9_looks rfl ⟨rfl, cd_X9_looks⟩ (by decide) rfl (Nat.le_of_ble_eq_true rfl) [0, 3] (by decide) rfl rfl (sg' := [(sMod cy am r4), (sI cy (am 12) 24 m_s), (sI cy (am 13) 24 m_w), (sI cy (am 14) 24 m_was), (sI cy (am 17) 240 m_undos), (sI cy (am 19) 8 m_listFrom), (sI cy (am 20) 8 m_listTo), (sI cy (am 22) 12 m_ring), (sI cy (am 30) 12 m_far), (sI cy (am 33) 12 m_order)]) (st' := []) rfl rfl ?_
      refine g_aload_n F dX9_adds_121 rfl 0 rfl ?_
      refine g_get F (C := RX9) (T := TX9) (N := 36) (ci := 9) (v := .int (r4 28)) hi_X9_adds_X9 0 0 28 dX9_adds_122 rfl rfl (by decide) fl_X9_adds_126 rfl ?_
      refine g_if_eq F 156 h dX9_adds_125 (by decide) (fun h => ?_) (fun h => ?_)
      · refine g_aload_n F dX9_adds_156 rfl 0 rfl ?_
        refine g_aload_n F dX9_adds_157 rfl 0 rfl ?_
        refine g_get F (C := RX9) (T := TX9) (N := 36) (ci := 9) (v := .ref (am 14)) hi_X9_adds_X9 0 0 13 dX9_adds_158 rfl rfl (by decide) fl_X9_adds_22 rfl ?_
        refine g_aload_n F dX9_adds_161 rfl 0 rfl ?_
        refine g_get F (C := RX9) (T := TX9) (N := 36) (ci := 9) (v := .int (r4 8)) hi_X9_adds_X9 0 0 8 dX9_adds_162 rfl rfl (by decide) fl_X9_adds_145 rfl ?_
        refine g_aload_n F dX9_adds_165 rfl 0 rfl ?_
        refine g_get F (C := RX9) (T := TX9) (N := 36) (ci := 9) (v := .ref (am 19)) hi_X9_adds_X9 0 0 18 dX9_adds_166 rfl rfl (by decide) fl_X9_adds_35 rfl ?_
        refine g_iload_n F dX9_adds_169 rfl 1 rfl ?_
        refine g_iaload F h 5 0 dX9_adds_170 rfl (fun h => ?_)
        refine g_aload_n F dX9_adds_171 rfl 0 rfl ?_
        refine g_get F (C := RX9) (T := TX9) (N := 36) (ci := 9) (v := .ref (am 20)) hi_X9_adds_X9 0 0 19 dX9_adds_172 rfl rfl (by decide) fl_X9_adds_38 rfl ?_
        refine g_iload_n F dX9_adds_175 rfl 1 rfl ?_
        refine g_iaload F h 6 0 dX9_adds_176 rfl (fun h => ?_)
        obtain ⟨r5, hr5, h⟩ := bnd h
        refine g_cV F [.ref (am 14), .int (r4 8), .int (m_listFrom (x2).toNatClampNeg), .int (m_listTo (x2).toNatClampNeg)] 0 0 (ok_X9_lays (gl G) (gD G) cy am (am 14) r4 m_w m_order m_was (r4 8) (m_listFrom (x2).toNatClampNeg) (m_listTo (x2).toNatClampNeg) r5 hr5) dX9_adds_177 rfl rfl gX9_adds_X9_lays rfl ⟨rfl, cd_X9_lays⟩ (by decide) rfl (Nat.le_of_ble_eq_true rfl) [0, 2, 9, 3] (by decide) rfl rfl (sg' := [(sMod cy am r5.1), (sI cy (am 12) 24 m_s), (sI cy (am 13) 24 r5.2.1), (sI cy (am 14) 24 r5.2.2.2), (sI cy (am 17) 240 m_undos), (sI cy (am 19) 8 m_listFrom), (sI cy (am 20) 8 m_listTo), (sI cy (am 22) 12 m_ring), (sI cy (am 30) 12 m_far), (sI cy (am 33) 12 r5.2.2.1)]) (st' := []) rfl rfl ?_
        refine g_iinc F (v := (x2 + 1)) (lv' := [(2, .int (x2 + 1)), (0, .ref (am 0))]) dX9_adds_180 1 rfl rfl (by decide) rfl ?_
        refine g_goto F 89 dX9_adds_183 (by decide) ?_
        refine Go.sub (lv' := [(0, .ref (am 0)), (2, .int (x2 + 1))]) [1, 0] rfl ?_
        exact ih (x2 + 1) r5.1 r5.2.1 r5.2.2.2 m_ring m_far r5.2.2.1 h
      · refine g_aload_n F dX9_adds_128 rfl 0 rfl ?_
        refine g_aload_n F dX9_adds_129 rfl 0 rfl ?_
        refine g_get F (C := RX9) (T := TX9) (N := 36) (ci := 9) (v := .ref (am 14)) hi_X9_adds_X9 0 0 13 dX9_adds_130 rfl rfl (by decide) fl_X9_adds_22 rfl ?_
        refine g_aload_n F dX9_adds_133 rfl 0 rfl ?_
        refine g_get F (C := RX9) (T := TX9) (N := 36) (ci := 9) (v := .ref (am 20)) hi_X9_adds_X9 0 0 19 dX9_adds_134 rfl rfl (by decide) fl_X9_adds_38 rfl ?_
        refine g_iload_n F dX9_adds_137 rfl 1 rfl ?_
        refine g_iaload F h 6 0 dX9_adds_138 rfl (fun h => ?_)
        refine g_aload_n F dX9_adds_139 rfl 0 rfl ?_
        refine g_get F (C := RX9) (T := TX9) (N := 36) (ci := 9) (v := .ref (am 19)) hi_X9_adds_X9 0 0 18 dX9_adds_140 rfl rfl (by decide) fl_X9_adds_35 rfl ?_
        refine g_iload_n F dX9_adds_143 rfl 1 rfl ?_
        refine g_iaload F h 5 0 dX9_adds_144 rfl (fun h => ?_)
        obtain ⟨r6, hr6, h⟩ := bnd h
        refine g_cV F [.ref (am 14), .int (m_listTo (x2).toNatClampNeg), .int (m_listFrom (x2).toNatClampNeg)] 0 0 (ok_X9_rings (gl G) (gD G) cy am (am 14) r4 m_ring m_far m_was (m_listTo (x2).toNatClampNeg) (m_listFrom (x2).toNatClampNeg) r6 hr6) dX9_adds_145 rfl rfl gX9_adds_X9_rings rfl ⟨rfl, cd_X9_rings⟩ (by decide) rfl (Nat.le_of_ble_eq_true rfl) [0, 7, 8, 3] (by decide) rfl rfl (sg' := [(sMod cy am r6.1), (sI cy (am 12) 24 m_s), (sI cy (am 13) 24 m_w), (sI cy (am 14) 24 m_was), (sI cy (am 17) 240 m_undos), (sI cy (am 19) 8 m_listFrom), (sI cy (am 20) 8 m_listTo), (sI cy (am 22) 12 r6.2.1), (sI cy (am 30) 12 r6.2.2), (sI cy (am 33) 12 m_order)]) (st' := []) rfl rfl ?_
        refine g_aload_n F dX9_adds_148 rfl 0 rfl ?_
        refine g_iconst F (v := (0 : Int32)) dX9_adds_149 (by decide) ?_
        refine g_put F (C := RX9) (T := TX9) (N := 36) (ci := 9) (v := .int (0 : Int32)) (ty := .int) (sg' := [(sMod cy am (upd r6.1 20 (0 : Int32))), (sI cy (am 12) 24 m_s), (sI cy (am 13) 24 m_w), (sI cy (am 14) 24 m_was), (sI cy (am 17) 240 m_undos), (sI cy (am 19) 8 m_listFrom), (sI cy (am 20) 8 m_listTo), (sI cy (am 22) 12 r6.2.1), (sI cy (am 30) 12 r6.2.2), (sI cy (am 33) 12 m_order)]) hi_X9_adds_X9 tyX9 tyX9_ok nmX9 0 0 20 dX9_adds_150 rfl rfl (by decide) fl_X9_adds_152 rfl rfl rfl rfl (Nat.le_of_ble_eq_true rfl) rfl ?_
        refine g_bipush F (v := (-4 : Int32)) dX9_adds_153 (by decide) ?_
        obtain rfl := Option.some.inj h
        exact g_iret F Rq rfl dX9_adds_155
set_option maxHeartbeats 4000000 in
set_option maxRecDepth 100000 in
theorem ok_X9_adds (l : Launch) (D : va_G) (cy : Nat → ClassId) (am : Nat → Nat)  (Mm : ModS) (m_s : (Nat → Int32)) (m_w : (Nat → Int32)) (m_was : (Nat → Int32)) (m_undos : (Nat → Int32)) (m_listFrom : (Nat → Int32)) (m_listTo : (Nat → Int32)) (m_ring : (Nat → Int32)) (m_far : (Nat → Int32)) (m_order : (Nat → Int32))  (out : Int32 × ModS × (Nat → Int32) × (Nat → Int32) × (Nat → Int32) × (Nat → Int32) × (Nat → Int32) × (Nat → Int32) × (Nat → Int32)) (h : f_X9_adds Mm m_s m_w m_was m_undos m_listFrom m_listTo m_ring m_far m_order = some out) : OK l D cy yX9_adds wsX9_adds rm_X9_adds [.ref (am 0)] [(sMod cy am Mm), (sI cy (am 12) 24 m_s), (sI cy (am 13) 24 m_w), (sI cy (am 14) 24 m_was), (sI cy (am 17) 240 m_undos), (sI cy (am 19) 8 m_listFrom), (sI cy (am 20) 8 m_listTo), (sI cy (am 22) 12 m_ring), (sI cy (am 30) 12 m_far), (sI cy (am 33) 12 m_order)] (some (.int out.1)) [(sMod cy am out.2.1), (sI cy (am 12) 24 out.2.2.1), (sI cy (am 13) 24 out.2.2.2.1), (sI cy (am 14) 24 out.2.2.2.2.1), (sI cy (am 17) 240 out.2.2.2.2.2.1), (sI cy (am 19) 8 m_listFrom), (sI cy (am 20) 8 m_listTo), (sI cy (am 22) 12 out.2.2.2.2.2.2.1), (sI cy (am 30) 12 out.2.2.2.2.2.2.2.1), (sI cy (am 33) 12 out.2.2.2.2.2.2.2.2)] := by
  refine OKx.of (cc := cX9_adds) (maxL := 3) (ret := (some .int)) (by decide) rfl (Nat.le_of_ble_eq_true rfl) (fun G F Rq => ?_)
  show Go G 0 0 0 [(0, .ref (am 0))] [] [(sMod cy am Mm), (sI cy (am 12) 24 m_s), (sI cy (am 13) 24 m_w), (sI cy (am 14) 24 m_was), (sI cy (am 17) 240 m_undos), (sI cy (am 19) 8 m_listFrom), (sI cy (am 20) 8 m_listTo), (sI cy (am 22) 12 m_ring), (sI cy (am 30) 12 m_far), (sI cy (am 33) 12 m_order)]
  replace F : Fx G cX9_adds wsX9_adds RX9 cy 3 (rm_X9_adds) := F
  replace Rq : Rx G "adds" (some .int) (some (.int out.1)) (fun z => z = [(sMod cy am out.2.1), (sI cy (am 12) 24 out.2.2.1), (sI cy (am 13) 24 out.2.2.2.1), (sI cy (am 14) 24 out.2.2.2.2.1), (sI cy (am 17) 240 out.2.2.2.2.2.1), (sI cy (am 19) 8 m_listFrom), (sI cy (am 20) 8 m_listTo), (sI cy (am 22) 12 out.2.2.2.2.2.2.1), (sI cy (am 30) 12 out.2.2.2.2.2.2.2.1), (sI cy (am 33) 12 out.2.2.2.2.2.2.2.2)]) 0 0 := Rq
  unfold f_X9_adds at h
  refine g_aload_n F dX9_adds_0 rfl 0 rfl ?_
  refine g_iconst F (v := (0 : Int32)) dX9_adds_1 (by decide) ?_
  refine g_put F (C := RX9) (T := TX9) (N := 36) (ci := 9) (v := .int (0 : Int32)) (ty := .int) (sg' := [(sMod cy am (upd Mm 0 (0 : Int32))), (sI cy (am 12) 24 m_s), (sI cy (am 13) 24 m_w), (sI cy (am 14) 24 m_was), (sI cy (am 17) 240 m_undos), (sI cy (am 19) 8 m_listFrom), (sI cy (am 20) 8 m_listTo), (sI cy (am 22) 12 m_ring), (sI cy (am 30) 12 m_far), (sI cy (am 33) 12 m_order)]) hi_X9_adds_X9 tyX9 tyX9_ok nmX9 0 0 0 dX9_adds_2 rfl rfl (by decide) fl_X9_adds_75 rfl rfl rfl rfl (Nat.le_of_ble_eq_true rfl) rfl ?_
  refine g_aload_n F dX9_adds_5 rfl 0 rfl ?_
  refine g_get F (C := RX9) (T := TX9) (N := 36) (ci := 9) (v := .int (Mm 20)) hi_X9_adds_X9 0 0 20 dX9_adds_6 rfl rfl (by decide) fl_X9_adds_152 rfl ?_
  refine g_if_ne F 16 h dX9_adds_9 (by decide) (fun h => ?_) (fun h => ?_)
  · refine g_iconst F (v := (0 : Int32)) dX9_adds_16 (by decide) ?_
    refine g_istore_n F (lv' := [(1, .int (0 : Int32)), (0, .ref (am 0))]) dX9_adds_17 rfl (by decide) rfl ?_
    refine g_iconst F (v := (0 : Int32)) dX9_adds_18 (by decide) ?_
    refine g_istore_n F (lv' := [(2, .int (0 : Int32)), (1, .int (0 : Int32)), (0, .ref (am 0))]) dX9_adds_19 rfl (by decide) rfl ?_
    refine Go.sub (lv' := [(0, .ref (am 0)), (1, .int (0 : Int32)), (2, .int (0 : Int32))]) [2, 1, 0] rfl ?_
    refine k_X9_adds_20_ok am (upd Mm 0 (0 : Int32)) m_s m_w m_was m_undos m_listFrom m_listTo m_ring m_far m_order F Rq _ (fun x1_2 h => ?_) _ (0 : Int32) (0 : Int32) h
    refine g_iload_n F dX9_adds_69 rfl 1 rfl ?_
    refine g_if_eq F 76 h dX9_adds_70 (by decide) (fun h => ?_) (fun h => ?_)
    · refine g_aload_n F dX9_adds_76 rfl 0 rfl ?_
      refine g_get F (C := RX9) (T := TX9) (N := 36) (ci := 9) (v := .ref (am 12)) hi_X9_adds_X9 0 0 11 dX9_adds_77 rfl rfl (by decide) fl_X9_adds_16 rfl ?_
      refine g_aload_n F dX9_adds_80 rfl 0 rfl ?_
      refine g_get F (C := RX9) (T := TX9) (N := 36) (ci := 9) (v := .ref (am 14)) hi_X9_adds_X9 0 0 13 dX9_adds_81 rfl rfl (by decide) fl_X9_adds_22 rfl ?_
      obtain ⟨r3, hr3, h⟩ := bnd h
      refine g_cS F [.ref (am 12), .ref (am 14)] (ok_X9_copies (gl G) (gD G) cy (am 12) (am 14) m_s m_was r3 hr3) dX9_adds_84 gX9_adds_X9_copies rfl cd_X9_copies (by decide) rfl (Nat.le_of_ble_eq_true rfl) [1, 3] (by decide) rfl rfl (sg' := [(sMod cy am (upd Mm 0 (0 : Int32))), (sI cy (am 12) 24 m_s), (sI cy (am 13) 24 m_w), (sI cy (am 14) 24 r3), (sI cy (am 17) 240 m_undos), (sI cy (am 19) 8 m_listFrom), (sI cy (am 20) 8 m_listTo), (sI cy (am 22) 12 m_ring), (sI cy (am 30) 12 m_far), (sI cy (am 33) 12 m_order)]) (st' := []) rfl rfl ?_
      refine g_iconst F (v := (0 : Int32)) dX9_adds_87 (by decide) ?_
      refine g_istore_n F (lv' := [(2, .int (0 : Int32)), (0, .ref (am 0)), (1, .int x1_2)]) dX9_adds_88 rfl (by decide) rfl ?_
      refine Go.sub (lv' := [(0, .ref (am 0)), (2, .int (0 : Int32))]) [1, 0] rfl ?_
      refine k_X9_adds_89_ok am m_s m_undos m_listFrom m_listTo F Rq _ (fun Mm_7 m_w_7 m_was_7 m_ring_7 m_far_7 m_order_7 h => ?_) _ (0 : Int32) (upd Mm 0 (0 : Int32)) m_w r3 m_ring m_far m_order h
      refine g_aload_n F dX9_adds_186 rfl 0 rfl ?_
      obtain ⟨r8, hr8, h⟩ := bnd h
      refine g_cV F [] 0 0 (ok_X9_notes (gl G) (gD G) cy am Mm_7 m_s m_undos r8 hr8) dX9_adds_187 rfl rfl gX9_adds_X9_notes rfl ⟨rfl, cd_X9_notes⟩ (by decide) rfl (Nat.le_of_ble_eq_true rfl) [0, 1, 4] (by decide) rfl rfl (sg' := [(sMod cy am r8.1), (sI cy (am 12) 24 m_s), (sI cy (am 13) 24 m_w_7), (sI cy (am 14) 24 m_was_7), (sI cy (am 17) 240 r8.2), (sI cy (am 19) 8 m_listFrom), (sI cy (am 20) 8 m_listTo), (sI cy (am 22) 12 m_ring_7), (sI cy (am 30) 12 m_far_7), (sI cy (am 33) 12 m_order_7)]) (st' := []) rfl rfl ?_
      refine g_aload_n F dX9_adds_190 rfl 0 rfl ?_
      refine g_iconst F (v := (0 : Int32)) dX9_adds_191 (by decide) ?_
      refine g_put F (C := RX9) (T := TX9) (N := 36) (ci := 9) (v := .int (0 : Int32)) (ty := .int) (sg' := [(sMod cy am (upd r8.1 20 (0 : Int32))), (sI cy (am 12) 24 m_s), (sI cy (am 13) 24 m_w_7), (sI cy (am 14) 24 m_was_7), (sI cy (am 17) 240 r8.2), (sI cy (am 19) 8 m_listFrom), (sI cy (am 20) 8 m_listTo), (sI cy (am 22) 12 m_ring_7), (sI cy (am 30) 12 m_far_7), (sI cy (am 33) 12 m_order_7)]) hi_X9_adds_X9 tyX9 tyX9_ok nmX9 0 0 20 dX9_adds_192 rfl rfl (by decide) fl_X9_adds_152 rfl rfl rfl rfl (Nat.le_of_ble_eq_true rfl) rfl ?_
      refine g_aload_n F dX9_adds_195 rfl 0 rfl ?_
      refine g_aload_n F dX9_adds_196 rfl 0 rfl ?_
      refine g_get F (C := RX9) (T := TX9) (N := 36) (ci := 9) (v := .ref (am 14)) hi_X9_adds_X9 0 0 13 dX9_adds_197 rfl rfl (by decide) fl_X9_adds_22 rfl ?_
      refine g_aload_n F dX9_adds_200 rfl 0 rfl ?_
      refine g_get F (C := RX9) (T := TX9) (N := 36) (ci := 9) (v := .ref (am 12)) hi_X9_adds_X9 0 0 11 dX9_adds_201 rfl rfl (by decide) fl_X9_adds_16 rfl ?_
      obtain ⟨r9, hr9, h⟩ := bnd h
      refine g_cV F [.ref (am 14), .ref (am 12)] 0 0 (ok_X9_moved (gl G) (gD G) cy am (am 14) (am 12) (upd r8.1 20 (0 : Int32)) m_was_7 m_s r9 hr9) dX9_adds_204 rfl rfl gX9_adds_X9_moved rfl ⟨rfl, cd_X9_moved⟩ (by decide) rfl (Nat.le_of_ble_eq_true rfl) [0, 3, 1] (by decide) rfl rfl (sg' := [(sMod cy am (upd r8.1 20 (0 : Int32))), (sI cy (am 12) 24 m_s), (sI cy (am 13) 24 m_w_7), (sI cy (am 14) 24 m_was_7), (sI cy (am 17) 240 r8.2), (sI cy (am 19) 8 m_listFrom), (sI cy (am 20) 8 m_listTo), (sI cy (am 22) 12 m_ring_7), (sI cy (am 30) 12 m_far_7), (sI cy (am 33) 12 m_order_7)]) (st' := [.int r9]) rfl rfl ?_
      obtain ⟨r10, hr10, h⟩ := bnd h
      refine g_cS F [.int r9] (ok_X9_ones (gl G) (gD G) cy r9 r10 hr10) dX9_adds_207 gX9_adds_X9_ones rfl cd_X9_ones (by decide) rfl (Nat.le_of_ble_eq_true rfl) [] (by decide) rfl rfl (sg' := [(sMod cy am (upd r8.1 20 (0 : Int32))), (sI cy (am 12) 24 m_s), (sI cy (am 13) 24 m_w_7), (sI cy (am 14) 24 m_was_7), (sI cy (am 17) 240 r8.2), (sI cy (am 19) 8 m_listFrom), (sI cy (am 20) 8 m_listTo), (sI cy (am 22) 12 m_ring_7), (sI cy (am 30) 12 m_far_7), (sI cy (am 33) 12 m_order_7)]) (st' := [.int r10]) rfl rfl ?_
      refine g_istore_n F (lv' := [(2, .int r10), (0, .ref (am 0))]) dX9_adds_210 rfl (by decide) rfl ?_
      refine g_aload_n F dX9_adds_211 rfl 1 rfl ?_
      refine g_get F (C := RX9) (T := TX9) (N := 36) (ci := 9) (v := .ref (am 14)) hi_X9_adds_X9 0 0 13 dX9_adds_212 rfl rfl (by decide) fl_X9_adds_22 rfl ?_
      refine g_aload_n F dX9_adds_215 rfl 1 rfl ?_
      refine g_get F (C := RX9) (T := TX9) (N := 36) (ci := 9) (v := .ref (am 12)) hi_X9_adds_X9 0 0 11 dX9_adds_216 rfl rfl (by decide) fl_X9_adds_16 rfl ?_
      obtain ⟨r11, hr11, h⟩ := bnd h
      refine g_cS F [.ref (am 14), .ref (am 12)] (ok_X9_copies (gl G) (gD G) cy (am 14) (am 12) m_was_7 m_s r11 hr11) dX9_adds_219 gX9_adds_X9_copies rfl cd_X9_copies (by decide) rfl (Nat.le_of_ble_eq_true rfl) [3, 1] (by decide) rfl rfl (sg' := [(sMod cy am (upd r8.1 20 (0 : Int32))), (sI cy (am 12) 24 r11), (sI cy (am 13) 24 m_w_7), (sI cy (am 14) 24 m_was_7), (sI cy (am 17) 240 r8.2), (sI cy (am 19) 8 m_listFrom), (sI cy (am 20) 8 m_listTo), (sI cy (am 22) 12 m_ring_7), (sI cy (am 30) 12 m_far_7), (sI cy (am 33) 12 m_order_7)]) (st' := []) rfl rfl ?_
      refine g_iload_n F dX9_adds_222 rfl 0 rfl ?_
      obtain rfl := Option.some.inj h
      exact g_iret F Rq rfl dX9_adds_223
    · refine g_bipush F (v := (-2 : Int32)) dX9_adds_73 (by decide) ?_
      obtain rfl := Option.some.inj h
      exact g_iret F Rq rfl dX9_adds_75
  · refine g_iconst F (v := (1 : Int32)) dX9_adds_12 (by decide) ?_
    refine g_goto F 17 dX9_adds_13 (by decide) ?_
    refine g_istore_n F (lv' := [(1, .int (1 : Int32)), (0, .ref (am 0))]) dX9_adds_17 rfl (by decide) rfl ?_
    refine g_iconst F (v := (0 : Int32)) dX9_adds_18 (by decide) ?_
    refine g_istore_n F (lv' := [(2, .int (0 : Int32)), (1, .int (1 : Int32)), (0, .ref (am 0))]) dX9_adds_19 rfl (by decide) rfl ?_
    refine Go.sub (lv' := [(0, .ref (am 0)), (1, .int (1 : Int32)), (2, .int (0 : Int32))]) [2, 1, 0] rfl ?_
    refine k_X9_adds_20_ok am (upd Mm 0 (0 : Int32)) m_s m_w m_was m_undos m_listFrom m_listTo m_ring m_far m_order F Rq _ (fun x1_13 h => ?_) _ (1 : Int32) (0 : Int32) h
    refine g_iload_n F dX9_adds_69 rfl 1 rfl ?_
    refine g_if_eq F 76 h dX9_adds_70 (by decide) (fun h => ?_) (fun h => ?_)
    · refine g_aload_n F dX9_adds_76 rfl 0 rfl ?_
      refine g_get F (C := RX9) (T := TX9) (N := 36) (ci := 9) (v := .ref (am 12)) hi_X9_adds_X9 0 0 11 dX9_adds_77 rfl rfl (by decide) fl_X9_adds_16 rfl ?_
      refine g_aload_n F dX9_adds_80 rfl 0 rfl ?_
      refine g_get F (C := RX9) (T := TX9) (N := 36) (ci := 9) (v := .ref (am 14)) hi_X9_adds_X9 0 0 13 dX9_adds_81 rfl rfl (by decide) fl_X9_adds_22 rfl ?_
      obtain ⟨r14, hr14, h⟩ := bnd h
      refine g_cS F [.ref (am 12), .ref (am 14)] (ok_X9_copies (gl G) (gD G) cy (am 12) (am 14) m_s m_was r14 hr14) dX9_adds_84 gX9_adds_X9_copies rfl cd_X9_copies (by decide) rfl (Nat.le_of_ble_eq_true rfl) [1, 3] (by decide) rfl rfl (sg' := [(sMod cy am (upd Mm 0 (0 : Int32))), (sI cy (am 12) 24 m_s), (sI cy (am 13) 24 m_w), (sI cy (am 14) 24 r14), (sI cy (am 17) 240 m_undos), (sI cy (am 19) 8 m_listFrom), (sI cy (am 20) 8 m_listTo), (sI cy (am 22) 12 m_ring), (sI cy (am 30) 12 m_far), (sI cy (am 33) 12 m_order)]) (st' := []) rfl rfl ?_
      refine g_iconst F (v := (0 : Int32)) dX9_adds_87 (by decide) ?_
      refine g_istore_n F (lv' := [(2, .int (0 : Int32)), (0, .ref (am 0)), (1, .int x1_13)]) dX9_adds_88 rfl (by decide) rfl ?_
      refine Go.sub (lv' := [(0, .ref (am 0)), (2, .int (0 : Int32))]) [1, 0] rfl ?_
      refine k_X9_adds_89_ok am m_s m_undos m_listFrom m_listTo F Rq _ (fun Mm_18 m_w_18 m_was_18 m_ring_18 m_far_18 m_order_18 h => ?_) _ (0 : Int32) (upd Mm 0 (0 : Int32)) m_w r14 m_ring m_far m_order h
      refine g_aload_n F dX9_adds_186 rfl 0 rfl ?_
      obtain ⟨r19, hr19, h⟩ := bnd h
      refine g_cV F [] 0 0 (ok_X9_notes (gl G) (gD G) cy am Mm_18 m_s m_undos r19 hr19) dX9_adds_187 rfl rfl gX9_adds_X9_notes rfl ⟨rfl, cd_X9_notes⟩ (by decide) rfl (Nat.le_of_ble_eq_true rfl) [0, 1, 4] (by decide) rfl rfl (sg' := [(sMod cy am r19.1), (sI cy (am 12) 24 m_s), (sI cy (am 13) 24 m_w_18), (sI cy (am 14) 24 m_was_18), (sI cy (am 17) 240 r19.2), (sI cy (am 19) 8 m_listFrom), (sI cy (am 20) 8 m_listTo), (sI cy (am 22) 12 m_ring_18), (sI cy (am 30) 12 m_far_18), (sI cy (am 33) 12 m_order_18)]) (st' := []) rfl rfl ?_
      refine g_aload_n F dX9_adds_190 rfl 0 rfl ?_
      refine g_iconst F (v := (0 : Int32)) dX9_adds_191 (by decide) ?_
      refine g_put F (C := RX9) (T := TX9) (N := 36) (ci := 9) (v := .int (0 : Int32)) (ty := .int) (sg' := [(sMod cy am (upd r19.1 20 (0 : Int32))), (sI cy (am 12) 24 m_s), (sI cy (am 13) 24 m_w_18), (sI cy (am 14) 24 m_was_18), (sI cy (am 17) 240 r19.2), (sI cy (am 19) 8 m_listFrom), (sI cy (am 20) 8 m_listTo), (sI cy (am 22) 12 m_ring_18), (sI cy (am 30) 12 m_far_18), (sI cy (am 33) 12 m_order_18)]) hi_X9_adds_X9 tyX9 tyX9_ok nmX9 0 0 20 dX9_adds_192 rfl rfl (by decide) fl_X9_adds_152 rfl rfl rfl rfl (Nat.le_of_ble_eq_true rfl) rfl ?_
      refine g_aload_n F dX9_adds_195 rfl 0 rfl ?_
      refine g_aload_n F dX9_adds_196 rfl 0 rfl ?_
      refine g_get F (C := RX9) (T := TX9) (N := 36) (ci := 9) (v := .ref (am 14)) hi_X9_adds_X9 0 0 13 dX9_adds_197 rfl rfl (by decide) fl_X9_adds_22 rfl ?_
      refine g_aload_n F dX9_adds_200 rfl 0 rfl ?_
      refine g_get F (C := RX9) (T := TX9) (N := 36) (ci := 9) (v := .ref (am 12)) hi_X9_adds_X9 0 0 11 dX9_adds_201 rfl rfl (by decide) fl_X9_adds_16 rfl ?_
      obtain ⟨r20, hr20, h⟩ := bnd h
      refine g_cV F [.ref (am 14), .ref (am 12)] 0 0 (ok_X9_moved (gl G) (gD G) cy am (am 14) (am 12) (upd r19.1 20 (0 : Int32)) m_was_18 m_s r20 hr20) dX9_adds_204 rfl rfl gX9_adds_X9_moved rfl ⟨rfl, cd_X9_moved⟩ (by decide) rfl (Nat.le_of_ble_eq_true rfl) [0, 3, 1] (by decide) rfl rfl (sg' := [(sMod cy am (upd r19.1 20 (0 : Int32))), (sI cy (am 12) 24 m_s), (sI cy (am 13) 24 m_w_18), (sI cy (am 14) 24 m_was_18), (sI cy (am 17) 240 r19.2), (sI cy (am 19) 8 m_listFrom), (sI cy (am 20) 8 m_listTo), (sI cy (am 22) 12 m_ring_18), (sI cy (am 30) 12 m_far_18), (sI cy (am 33) 12 m_order_18)]) (st' := [.int r20]) rfl rfl ?_
      obtain ⟨r21, hr21, h⟩ := bnd h
      refine g_cS F [.int r20] (ok_X9_ones (gl G) (gD G) cy r20 r21 hr21) dX9_adds_207 gX9_adds_X9_ones rfl cd_X9_ones (by decide) rfl (Nat.le_of_ble_eq_true rfl) [] (by decide) rfl rfl (sg' := [(sMod cy am (upd r19.1 20 (0 : Int32))), (sI cy (am 12) 24 m_s), (sI cy (am 13) 24 m_w_18), (sI cy (am 14) 24 m_was_18), (sI cy (am 17) 240 r19.2), (sI cy (am 19) 8 m_listFrom), (sI cy (am 20) 8 m_listTo), (sI cy (am 22) 12 m_ring_18), (sI cy (am 30) 12 m_far_18), (sI cy (am 33) 12 m_order_18)]) (st' := [.int r21]) rfl rfl ?_
      refine g_istore_n F (lv' := [(2, .int r21), (0, .ref (am 0))]) dX9_adds_210 rfl (by decide) rfl ?_
      refine g_aload_n F dX9_adds_211 rfl 1 rfl ?_
      refine g_get F (C := RX9) (T := TX9) (N := 36) (ci := 9) (v := .ref (am 14)) hi_X9_adds_X9 0 0 13 dX9_adds_212 rfl rfl (by decide) fl_X9_adds_22 rfl ?_
      refine g_aload_n F dX9_adds_215 rfl 1 rfl ?_
      refine g_get F (C := RX9) (T := TX9) (N := 36) (ci := 9) (v := .ref (am 12)) hi_X9_adds_X9 0 0 11 dX9_adds_216 rfl rfl (by decide) fl_X9_adds_16 rfl ?_
      obtain ⟨r22, hr22, h⟩ := bnd h
      refine g_cS F [.ref (am 14), .ref (am 12)] (ok_X9_copies (gl G) (gD G) cy (am 14) (am 12) m_was_18 m_s r22 hr22) dX9_adds_219 gX9_adds_X9_copies rfl cd_X9_copies (by decide) rfl (Nat.le_of_ble_eq_true rfl) [3, 1] (by decide) rfl rfl (sg' := [(sMod cy am (upd r19.1 20 (0 : Int32))), (sI cy (am 12) 24 r22), (sI cy (am 13) 24 m_w_18), (sI cy (am 14) 24 m_was_18), (sI cy (am 17) 240 r19.2), (sI cy (am 19) 8 m_listFrom), (sI cy (am 20) 8 m_listTo), (sI cy (am 22) 12 m_ring_18), (sI cy (am 30) 12 m_far_18), (sI cy (am 33) 12 m_order_18)]) (st' := []) rfl rfl ?_
      refine g_iload_n F dX9_adds_222 rfl 0 rfl ?_
      obtain rfl := Option.some.inj h
      exact g_iret F Rq rfl dX9_adds_223
    · refine g_bipush F (v := (-2 : Int32)) dX9_adds_73 (by decide) ?_
      obtain rfl := Option.some.inj h
      exact g_iret F Rq rfl dX9_adds_75
theorem hi_X9_cuts_X9 : ∀ w ∈ u_ws RX9 TX9 36, w ∈ wsX9_cuts := by decide +kernel
theorem fl_X9_cuts_75 : Cond.fieldLink RX9 75 "ArcOrderModel" "thrown" "I" ∈ wsX9_cuts := by decide +kernel
theorem fl_X9_cuts_16 : Cond.fieldLink RX9 16 "ArcOrderModel" "s" "[I" ∈ wsX9_cuts := by decide +kernel
abbrev rm_X9_cuts : Room := { frames := 3, cells := 0, slots := 0, locals := 65 }
set_option maxHeartbeats 4000000 in
set_option maxRecDepth 100000 in
theorem ok_X9_cuts (l : Launch) (D : va_G) (cy : Nat → ClassId) (am : Nat → Nat)  (Mm : ModS) (m_s : (Nat → Int32)) (m_undos : (Nat → Int32)) (x1 : Int32) (x2 : Int32) (out : Int32 × ModS × (Nat → Int32) × (Nat → Int32)) (h : f_X9_cuts Mm m_s m_undos x1 x2 = some out) : OK l D cy yX9_cuts wsX9_cuts rm_X9_cuts [.ref (am 0), .int x1, .int x2] [(sMod cy am Mm), (sI cy (am 12) 24 m_s), (sI cy (am 17) 240 m_undos)] (some (.int out.1)) [(sMod cy am out.2.1), (sI cy (am 12) 24 out.2.2.1), (sI cy (am 17) 240 out.2.2.2)] := by
  refine OKx.of (cc := cX9_cuts) (maxL := 3) (ret := (some .int)) (by decide) rfl (Nat.le_of_ble_eq_true rfl) (fun G F Rq => ?_)
  show Go G 0 0 0 [(0, .ref (am 0)), (1, .int x1), (2, .int x2)] [] [(sMod cy am Mm), (sI cy (am 12) 24 m_s), (sI cy (am 17) 240 m_undos)]
  replace F : Fx G cX9_cuts wsX9_cuts RX9 cy 3 (rm_X9_cuts) := F
  replace Rq : Rx G "cuts" (some .int) (some (.int out.1)) (fun z => z = [(sMod cy am out.2.1), (sI cy (am 12) 24 out.2.2.1), (sI cy (am 17) 240 out.2.2.2)]) 0 0 := Rq
  unfold f_X9_cuts at h
  refine g_aload_n F dX9_cuts_0 rfl 0 rfl ?_
  refine g_iconst F (v := (0 : Int32)) dX9_cuts_1 (by decide) ?_
  refine g_put F (C := RX9) (T := TX9) (N := 36) (ci := 9) (v := .int (0 : Int32)) (ty := .int) (sg' := [(sMod cy am (upd Mm 0 (0 : Int32))), (sI cy (am 12) 24 m_s), (sI cy (am 17) 240 m_undos)]) hi_X9_cuts_X9 tyX9 tyX9_ok nmX9 0 0 0 dX9_cuts_2 rfl rfl (by decide) fl_X9_cuts_75 rfl rfl rfl rfl (Nat.le_of_ble_eq_true rfl) rfl ?_
  refine g_aload_n F dX9_cuts_5 rfl 0 rfl ?_
  refine g_iload_n F dX9_cuts_6 rfl 1 rfl ?_
  refine g_iload_n F dX9_cuts_7 rfl 2 rfl ?_
  obtain ⟨r1, hr1, h⟩ := bnd h
  refine g_cV F [.int x1, .int x2] 0 0 (ok_X9_isTwo (gl G) (gD G) cy am (upd Mm 0 (0 : Int32)) x1 x2 r1 hr1) dX9_cuts_8 rfl rfl gX9_cuts_X9_isTwo rfl ⟨rfl, cd_X9_isTwo⟩ (by decide) rfl (Nat.le_of_ble_eq_true rfl) [0] (by decide) rfl rfl (sg' := [(sMod cy am (upd Mm 0 (0 : Int32))), (sI cy (am 12) 24 m_s), (sI cy (am 17) 240 m_undos)]) (st' := [.int r1]) rfl rfl ?_
  refine g_if_ne F 16 h dX9_cuts_11 (by decide) (fun h => ?_) (fun h => ?_)
  · refine g_aload_n F dX9_cuts_16 rfl 0 rfl ?_
    refine g_get F (C := RX9) (T := TX9) (N := 36) (ci := 9) (v := .ref (am 12)) hi_X9_cuts_X9 0 0 11 dX9_cuts_17 rfl rfl (by decide) fl_X9_cuts_16 rfl ?_
    refine g_iconst F (v := (0 : Int32)) dX9_cuts_20 (by decide) ?_
    refine g_iload_n F dX9_cuts_21 rfl 1 rfl ?_
    refine g_iadd F dX9_cuts_22 ?_
    refine g_iaload F h 1 0 dX9_cuts_23 rfl (fun h => ?_)
    refine g_iload_n F dX9_cuts_24 rfl 2 rfl ?_
    obtain ⟨r2, hr2, h⟩ := bnd h
    refine g_cS F [.int (m_s (((0 : Int32) + x1)).toNatClampNeg), .int x2] (ok_X9_has (gl G) (gD G) cy (m_s (((0 : Int32) + x1)).toNatClampNeg) x2 r2 hr2) dX9_cuts_25 gX9_cuts_X9_has rfl cd_X9_has (by decide) rfl (Nat.le_of_ble_eq_true rfl) [] (by decide) rfl rfl (sg' := [(sMod cy am (upd Mm 0 (0 : Int32))), (sI cy (am 12) 24 m_s), (sI cy (am 17) 240 m_undos)]) (st' := [.int r2]) rfl rfl ?_
    refine g_if_ne F 34 h dX9_cuts_28 (by decide) (fun h => ?_) (fun h => ?_)
    · refine g_aload_n F dX9_cuts_34 rfl 0 rfl ?_
      obtain ⟨r3, hr3, h⟩ := bnd h
      refine g_cV F [] 0 0 (ok_X9_notes (gl G) (gD G) cy am (upd Mm 0 (0 : Int32)) m_s m_undos r3 hr3) dX9_cuts_35 rfl rfl gX9_cuts_X9_notes rfl ⟨rfl, cd_X9_notes⟩ (by decide) rfl (Nat.le_of_ble_eq_true rfl) [0, 1, 2] (by decide) rfl rfl (sg' := [(sMod cy am r3.1), (sI cy (am 12) 24 m_s), (sI cy (am 17) 240 r3.2)]) (st' := []) rfl rfl ?_
      refine g_aload_n F dX9_cuts_38 rfl 0 rfl ?_
      refine g_get F (C := RX9) (T := TX9) (N := 36) (ci := 9) (v := .ref (am 12)) hi_X9_cuts_X9 0 0 11 dX9_cuts_39 rfl rfl (by decide) fl_X9_cuts_16 rfl ?_
      refine g_iconst F (v := (0 : Int32)) dX9_cuts_42 (by decide) ?_
      refine g_iload_n F dX9_cuts_43 rfl 1 rfl ?_
      refine g_iadd F dX9_cuts_44 ?_
      refine g_dup2 F dX9_cuts_45 rfl rfl ?_
      refine g_iaload F h 1 0 dX9_cuts_46 rfl (fun h => ?_)
      refine g_iconst F (v := (1 : Int32)) dX9_cuts_47 (by decide) ?_
      refine g_iload_n F dX9_cuts_48 rfl 2 rfl ?_
      refine g_ishl F dX9_cuts_49 ?_
      refine g_ixor F dX9_cuts_50 ?_
      refine g_iastore F h (sg' := [(sMod cy am r3.1), (sI cy (am 12) 24 (upd m_s (((0 : Int32) + x1)).toNatClampNeg ((m_s (((0 : Int32) + x1)).toNatClampNeg) ^^^ ((1 : Int32) <<< (x2 &&& 31))))), (sI cy (am 17) 240 r3.2)]) 1 0 dX9_cuts_51 rfl rfl (fun h => ?_)
      refine g_aload_n F dX9_cuts_52 rfl 0 rfl ?_
      obtain ⟨r4, hr4, h⟩ := bnd h
      refine g_cV F [] 0 0 (ok_X9_arcs (gl G) (gD G) cy am r3.1 (upd m_s (((0 : Int32) + x1)).toNatClampNeg ((m_s (((0 : Int32) + x1)).toNatClampNeg) ^^^ ((1 : Int32) <<< (x2 &&& 31)))) r4 hr4) dX9_cuts_53 rfl rfl gX9_cuts_X9_arcs rfl ⟨rfl, cd_X9_arcs⟩ (by decide) rfl (Nat.le_of_ble_eq_true rfl) [0, 1] (by decide) rfl rfl (sg' := [(sMod cy am r3.1), (sI cy (am 12) 24 (upd m_s (((0 : Int32) + x1)).toNatClampNeg ((m_s (((0 : Int32) + x1)).toNatClampNeg) ^^^ ((1 : Int32) <<< (x2 &&& 31))))), (sI cy (am 17) 240 r3.2)]) (st' := [.int r4]) rfl rfl ?_
      obtain rfl := Option.some.inj h
      exact g_iret F Rq rfl dX9_cuts_56
    · refine g_bipush F (v := (-2 : Int32)) dX9_cuts_31 (by decide) ?_
      obtain rfl := Option.some.inj h
      exact g_iret F Rq rfl dX9_cuts_33
  · refine g_iconst F (v := (-1 : Int32)) dX9_cuts_14 (by decide) ?_
    obtain rfl := Option.some.inj h
    exact g_iret F Rq rfl dX9_cuts_15
abbrev rm_X9_canNext : Room := { frames := 2, cells := 0, slots := 0, locals := 44 }
set_option maxHeartbeats 4000000 in
set_option maxRecDepth 100000 in
theorem ok_X9_canNext (l : Launch) (D : va_G) (cy : Nat → ClassId) (am : Nat → Nat)  (Mm : ModS) (m_s : (Nat → Int32)) (x1 : Int32) (x2 : Int32) (out : Int32) (h : f_X9_canNext Mm m_s x1 x2 = some out) : OK l D cy yX9_canNext wsX9_canNext rm_X9_canNext [.ref (am 0), .int x1, .int x2] [(sMod cy am Mm), (sI cy (am 12) 24 m_s)] (some (.int out)) [(sMod cy am Mm), (sI cy (am 12) 24 m_s)] := by
  refine OKx.of (cc := cX9_canNext) (maxL := 3) (ret := (some .boolean)) (by decide) rfl (Nat.le_of_ble_eq_true rfl) (fun G F Rq => ?_)
  show Go G 0 0 0 [(0, .ref (am 0)), (1, .int x1), (2, .int x2)] [] [(sMod cy am Mm), (sI cy (am 12) 24 m_s)]
  replace F : Fx G cX9_canNext wsX9_canNext RX9 cy 3 (rm_X9_canNext) := F
  replace Rq : Rx G "canNext" (some .boolean) (some (.int out)) (fun z => z = [(sMod cy am Mm), (sI cy (am 12) 24 m_s)]) 0 0 := Rq
  unfold f_X9_canNext at h
  refine g_iload_n F dX9_canNext_0 rfl 1 rfl ?_
  refine g_iload_n F dX9_canNext_1 rfl 2 rfl ?_
  obtain ⟨r1, hr1, h⟩ := bnd h
  refine g_cS F [.int x1, .int x2] (ok_X9_has (gl G) (gD G) cy x1 x2 r1 hr1) dX9_canNext_2 gX9_canNext_X9_has rfl cd_X9_has (by decide) rfl (Nat.le_of_ble_eq_true rfl) [] (by decide) rfl rfl (sg' := [(sMod cy am Mm), (sI cy (am 12) 24 m_s)]) (st' := [.int r1]) rfl rfl ?_
  refine g_if_ne F 24 h dX9_canNext_5 (by decide) (fun h => ?_) (fun h => ?_)
  · refine g_iconst F (v := (0 : Int32)) dX9_canNext_24 (by decide) ?_
    obtain rfl := Option.some.inj h
    exact g_zret F Rq rfl rfl dX9_canNext_25
  · refine g_aload_n F dX9_canNext_8 rfl 0 rfl ?_
    refine g_iload_n F dX9_canNext_9 rfl 2 rfl ?_
    obtain ⟨r2, hr2, h⟩ := bnd h
    refine g_cV F [.int x2] 0 0 (ok_X9_into (gl G) (gD G) cy am Mm m_s x2 r2 hr2) dX9_canNext_10 rfl rfl gX9_canNext_X9_into rfl ⟨rfl, cd_X9_into⟩ (by decide) rfl (Nat.le_of_ble_eq_true rfl) [0, 1] (by decide) rfl rfl (sg' := [(sMod cy am Mm), (sI cy (am 12) 24 m_s)]) (st' := [.int r2]) rfl rfl ?_
    refine g_iload_n F dX9_canNext_13 rfl 1 rfl ?_
    refine g_iconst F (v := (-1 : Int32)) dX9_canNext_14 (by decide) ?_
    refine g_ixor F dX9_canNext_15 ?_
    refine g_iand F dX9_canNext_16 ?_
    refine g_if_ne F 24 h dX9_canNext_17 (by decide) (fun h => ?_) (fun h => ?_)
    · refine g_iconst F (v := (0 : Int32)) dX9_canNext_24 (by decide) ?_
      obtain rfl := Option.some.inj h
      exact g_zret F Rq rfl rfl dX9_canNext_25
    · refine g_iconst F (v := (1 : Int32)) dX9_canNext_20 (by decide) ?_
      refine g_goto F 25 dX9_canNext_21 (by decide) ?_
      obtain rfl := Option.some.inj h
      exact g_zret F Rq rfl rfl dX9_canNext_25
