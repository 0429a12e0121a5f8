/-! ===== constructors ===== -/
section GO2
variable {G : GX} {cc : ByteArray} {Ts : List Cond} {own : String} {cy : Nat → ClassId} {nM : Nat} {rm : Room} {a b pc : Nat} {lv lv' : List (Nat × Value)} {st : List Value} {sg sg' : List va_W}
theorem g_obj (F : Fx G cc Ts own cy nM rm) {index hh : Nat} (hd : decode cc pc = .ok (.invokespecial index, 3)) (hT : Cond.methodLink own index objectInit ∈ Ts ∧ Cond.instanceMethod objectInit ∈ Ts ∧ Cond.code objectInit ⟨#[0xb1]⟩ 1 none ∈ Ts) (hr : 1 ≤ rm.frames ∧ (st.map fun v => v.category).sum + 12 ≤ rm.locals) (K : Go G a b (pc + 3) lv st sg) : Go G a b pc lv (.ref hh :: st) sg := by
  obtain ⟨p, l, e, R, s, m, args, below, meth, c, nL, D, A, Q⟩ := G
  obtain ⟨hx, hb, hml, hown, hts, hK, hN, hlk, hA, hR, hnL⟩ := F
  intro H locs ls hP hD hS hl
  subst hR
  refine W.objInit hx hb hown (hts _ hT.1) (hts _ hT.2.1) (hts _ hT.2.2) (g := F0 m pc ls (.ref hh :: st)) rfl (hl.1.trans hml.symm) rfl hd hr.1 ?_ (K H locs ls hP hD hS hl)
  have h0 : (F0 m pc ls (.ref hh :: st)).monitorRoom = 0 := rfl
  rw [h0]
  have := hr.2
  omega
end GO2
def z0 : Nat → Int32 := fun _ => 0
def zJ : Nat → Int64 := fun _ => 0
theorem hi_X0_init_X0 : ∀ w ∈ u_ws RX0 TX0 3, w ∈ wsX0_init := by decide +kernel
theorem ob_X0_init : Cond.methodLink RX0 3 objectInit ∈ wsX0_init ∧ Cond.instanceMethod objectInit ∈ wsX0_init ∧ Cond.code objectInit ⟨#[0xb1]⟩ 1 none ∈ wsX0_init := by decide +kernel
theorem na_X0_init_int : Cond.arrayClass .int ∈ wsX0_init := by decide +kernel
theorem fl_X0_init_9 : Cond.fieldLink RX0 9 "ArcOrder$ArcList" "from" "[I" ∈ wsX0_init := by decide +kernel
theorem fl_X0_init_15 : Cond.fieldLink RX0 15 "ArcOrder$ArcList" "to" "[I" ∈ wsX0_init := by decide +kernel
def f0_X0 : List Value := [.int 0, .null, .null]
abbrev rm_X0_init : Room := { frames := 1, cells := 2, slots := 16, locals := 12 }
def xLst (cy : Nat → ClassId) (q : Nat) (z : List va_W) : Prop := ∃ (a : Nat → Nat), a 0 = q ∧ z = [sLst cy a (0, z0, z0)]
set_option maxHeartbeats 4000000 in
set_option maxRecDepth 100000 in
theorem ok_X0_init (l : Launch) (D : va_G) (cy : Nat → ClassId) (q : Nat) : OKx l D cy yX0_init wsX0_init rm_X0_init [.ref q] [[(q, .inr (0, f0_X0))]] none (xLst cy q) 2 16 := by
  refine OKx.of (cc := cX0_init) (maxL := 1) (ret := none) (by decide) rfl (Nat.le_of_ble_eq_true rfl) (fun G F Rq => ?_)
  show Go G 0 0 0 [(0, .ref q)] [] [[(q, .inr (0, f0_X0))]]
  replace F : Fx G cX0_init wsX0_init RX0 cy 1 (rm_X0_init) := F
  replace Rq : Rx G "<init>" none none (xLst cy q) 2 16 := Rq
  refine g_aload_n F dX0_init_0 rfl 0 rfl ?_
  refine g_obj F dX0_init_1 ob_X0_init (by decide) ?_
  refine g_aload_n F dX0_init_4 rfl 0 rfl ?_
  refine g_bipush F (v := (8 : Int32)) dX0_init_5 (by decide) ?_
  refine g_newa F (N := 8) (t0 := 0) (ty := .int) (a0 := (8, .inl z0)) dX0_init_7 na_X0_init_int rfl rfl va_RA_i (fun _ => rfl) (by decide) (by decide) (by decide) (by decide) (fun q1 => ?_)
  refine g_putF F Rq (C := RX0) (T := TX0) (N := 3) (ci := 0) (v := .ref q1) (sg' := [[(q, .inr (0, [.int 0, .ref q1, .null]))], [(q1, .inl (cy 0, 8, .inl z0))]]) hi_X0_init_X0 tyX0 tyX0_ok nmX0 0 0 1 dX0_init_9 rfl rfl (by decide) fl_X0_init_9 rfl rfl rfl rfl rfl (Nat.le_of_ble_eq_true rfl) rfl ?_
  refine g_aload_n F dX0_init_12 rfl 0 rfl ?_
  refine g_bipush F (v := (8 : Int32)) dX0_init_13 (by decide) ?_
  refine g_newa F (N := 8) (t0 := 0) (ty := .int) (a0 := (8, .inl z0)) dX0_init_15 na_X0_init_int rfl rfl va_RA_i (fun _ => rfl) (by decide) (by decide) (by decide) (by decide) (fun q2 => ?_)
  refine g_putF F Rq (C := RX0) (T := TX0) (N := 3) (ci := 0) (v := .ref q2) (sg' := [[(q, .inr (0, [.int 0, .ref q1, .ref q2]))], [(q1, .inl (cy 0, 8, .inl z0))], [(q2, .inl (cy 0, 8, .inl z0))]]) hi_X0_init_X0 tyX0 tyX0_ok nmX0 0 0 2 dX0_init_17 rfl rfl (by decide) fl_X0_init_15 rfl rfl rfl rfl rfl (Nat.le_of_ble_eq_true rfl) rfl ?_
  refine Go.world (sg' := [sLst cy (fun k => if k = 0 then q else if k = 2 then q1 else if k = 3 then q2 else 0) (0, z0, z0)]) rfl ?_
  exact g_vret F Rq ⟨(fun k => if k = 0 then q else if k = 2 then q1 else if k = 3 then q2 else 0), rfl, rfl⟩ dX0_init_20
theorem hi_X1_init_X1 : ∀ w ∈ u_ws RX1 TX1 1, w ∈ wsX1_init := by decide +kernel
theorem ob_X1_init : Cond.methodLink RX1 3 objectInit ∈ wsX1_init ∧ Cond.instanceMethod objectInit ∈ wsX1_init ∧ Cond.code objectInit ⟨#[0xb1]⟩ 1 none ∈ wsX1_init := by decide +kernel
theorem na_X1_init_int : Cond.arrayClass .int ∈ wsX1_init := by decide +kernel
theorem fl_X1_init_9 : Cond.fieldLink RX1 9 "ArcOrder$Calendar" "fewest" "[I" ∈ wsX1_init := by decide +kernel
def f0_X1 : List Value := [.null]
abbrev rm_X1_init : Room := { frames := 1, cells := 1, slots := 4096, locals := 12 }
def xCal (cy : Nat → ClassId) (q : Nat) (z : List va_W) : Prop := ∃ (a : Nat → Nat), a 0 = q ∧ z = [sCal cy a z0]
set_option maxHeartbeats 4000000 in
set_option maxRecDepth 100000 in
theorem ok_X1_init (l : Launch) (D : va_G) (cy : Nat → ClassId) (q : Nat) : OKx l D cy yX1_init wsX1_init rm_X1_init [.ref q] [[(q, .inr (1, f0_X1))]] none (xCal cy q) 1 4096 := by
  refine OKx.of (cc := cX1_init) (maxL := 1) (ret := none) (by decide) rfl (Nat.le_of_ble_eq_true rfl) (fun G F Rq => ?_)
  show Go G 0 0 0 [(0, .ref q)] [] [[(q, .inr (1, f0_X1))]]
  replace F : Fx G cX1_init wsX1_init RX1 cy 1 (rm_X1_init) := F
  replace Rq : Rx G "<init>" none none (xCal cy q) 1 4096 := Rq
  refine g_aload_n F dX1_init_0 rfl 0 rfl ?_
  refine g_obj F dX1_init_1 ob_X1_init (by decide) ?_
  refine g_aload_n F dX1_init_4 rfl 0 rfl ?_
  refine g_sipush F (v := (4096 : Int32)) dX1_init_5 (by decide) ?_
  refine g_newa F (N := 4096) (t0 := 0) (ty := .int) (a0 := (4096, .inl z0)) dX1_init_8 na_X1_init_int rfl rfl va_RA_i (fun _ => rfl) (by decide) (by decide) (by decide) (by decide) (fun q1 => ?_)
  refine g_putF F Rq (C := RX1) (T := TX1) (N := 1) (ci := 1) (v := .ref q1) (sg' := [[(q, .inr (1, [.ref q1]))], [(q1, .inl (cy 0, 4096, .inl z0))]]) hi_X1_init_X1 tyX1 tyX1_ok nmX1 0 0 0 dX1_init_10 rfl rfl (by decide) fl_X1_init_9 rfl rfl rfl rfl rfl (Nat.le_of_ble_eq_true rfl) rfl ?_
  refine Go.world (sg' := [sCal cy (fun k => if k = 0 then q else if k = 1 then q1 else 0) z0]) rfl ?_
  exact g_vret F Rq ⟨(fun k => if k = 0 then q else if k = 1 then q1 else 0), rfl, rfl⟩ dX1_init_13
theorem hi_X2_init_X2 : ∀ w ∈ u_ws RX2 TX2 3, w ∈ wsX2_init := by decide +kernel
theorem ob_X2_init : Cond.methodLink RX2 3 objectInit ∈ wsX2_init ∧ Cond.instanceMethod objectInit ∈ wsX2_init ∧ Cond.code objectInit ⟨#[0xb1]⟩ 1 none ∈ wsX2_init := by decide +kernel
theorem na_X2_init_int : Cond.arrayClass .int ∈ wsX2_init := by decide +kernel
theorem fl_X2_init_9 : Cond.fieldLink RX2 9 "ArcOrder$Lap" "items" "[I" ∈ wsX2_init := by decide +kernel
theorem fl_X2_init_15 : Cond.fieldLink RX2 15 "ArcOrder$Lap" "steps" "[I" ∈ wsX2_init := by decide +kernel
def f0_X2 : List Value := [.int 0, .null, .null]
abbrev rm_X2_init : Room := { frames := 1, cells := 2, slots := 24, locals := 12 }
def xLap (cy : Nat → ClassId) (q : Nat) (z : List va_W) : Prop := ∃ (a : Nat → Nat), a 0 = q ∧ z = [sLap cy a (0, z0, z0)]
set_option maxHeartbeats 4000000 in
set_option maxRecDepth 100000 in
theorem ok_X2_init (l : Launch) (D : va_G) (cy : Nat → ClassId) (q : Nat) : OKx l D cy yX2_init wsX2_init rm_X2_init [.ref q] [[(q, .inr (2, f0_X2))]] none (xLap cy q) 2 24 := by
  refine OKx.of (cc := cX2_init) (maxL := 1) (ret := none) (by decide) rfl (Nat.le_of_ble_eq_true rfl) (fun G F Rq => ?_)
  show Go G 0 0 0 [(0, .ref q)] [] [[(q, .inr (2, f0_X2))]]
  replace F : Fx G cX2_init wsX2_init RX2 cy 1 (rm_X2_init) := F
  replace Rq : Rx G "<init>" none none (xLap cy q) 2 24 := Rq
  refine g_aload_n F dX2_init_0 rfl 0 rfl ?_
  refine g_obj F dX2_init_1 ob_X2_init (by decide) ?_
  refine g_aload_n F dX2_init_4 rfl 0 rfl ?_
  refine g_bipush F (v := (12 : Int32)) dX2_init_5 (by decide) ?_
  refine g_newa F (N := 12) (t0 := 0) (ty := .int) (a0 := (12, .inl z0)) dX2_init_7 na_X2_init_int rfl rfl va_RA_i (fun _ => rfl) (by decide) (by decide) (by decide) (by decide) (fun q1 => ?_)
  refine g_putF F Rq (C := RX2) (T := TX2) (N := 3) (ci := 2) (v := .ref q1) (sg' := [[(q, .inr (2, [.int 0, .ref q1, .null]))], [(q1, .inl (cy 0, 12, .inl z0))]]) hi_X2_init_X2 tyX2 tyX2_ok nmX2 0 0 1 dX2_init_9 rfl rfl (by decide) fl_X2_init_9 rfl rfl rfl rfl rfl (Nat.le_of_ble_eq_true rfl) rfl ?_
  refine g_aload_n F dX2_init_12 rfl 0 rfl ?_
  refine g_bipush F (v := (12 : Int32)) dX2_init_13 (by decide) ?_
  refine g_newa F (N := 12) (t0 := 0) (ty := .int) (a0 := (12, .inl z0)) dX2_init_15 na_X2_init_int rfl rfl va_RA_i (fun _ => rfl) (by decide) (by decide) (by decide) (by decide) (fun q2 => ?_)
  refine g_putF F Rq (C := RX2) (T := TX2) (N := 3) (ci := 2) (v := .ref q2) (sg' := [[(q, .inr (2, [.int 0, .ref q1, .ref q2]))], [(q1, .inl (cy 0, 12, .inl z0))], [(q2, .inl (cy 0, 12, .inl z0))]]) hi_X2_init_X2 tyX2 tyX2_ok nmX2 0 0 2 dX2_init_17 rfl rfl (by decide) fl_X2_init_15 rfl rfl rfl rfl rfl (Nat.le_of_ble_eq_true rfl) rfl ?_
  refine Go.world (sg' := [sLap cy (fun k => if k = 0 then q else if k = 2 then q1 else if k = 3 then q2 else 0) (0, z0, z0)]) rfl ?_
  exact g_vret F Rq ⟨(fun k => if k = 0 then q else if k = 2 then q1 else if k = 3 then q2 else 0), rfl, rfl⟩ dX2_init_20
theorem hi_X3_init_X3 : ∀ w ∈ u_ws RX3 TX3 7, w ∈ wsX3_init := by decide +kernel
theorem ob_X3_init : Cond.methodLink RX3 3 objectInit ∈ wsX3_init ∧ Cond.instanceMethod objectInit ∈ wsX3_init ∧ Cond.code objectInit ⟨#[0xb1]⟩ 1 none ∈ wsX3_init := by decide +kernel
theorem na_X3_init_int : Cond.arrayClass .int ∈ wsX3_init := by decide +kernel
theorem fl_X3_init_9 : Cond.fieldLink RX3 9 "ArcOrder$Net" "out" "[I" ∈ wsX3_init := by decide +kernel
theorem fl_X3_init_15 : Cond.fieldLink RX3 15 "ArcOrder$Net" "in" "[I" ∈ wsX3_init := by decide +kernel
theorem fl_X3_init_18 : Cond.fieldLink RX3 18 "ArcOrder$Net" "order" "[I" ∈ wsX3_init := by decide +kernel
theorem fl_X3_init_21 : Cond.fieldLink RX3 21 "ArcOrder$Net" "place" "[I" ∈ wsX3_init := by decide +kernel
theorem fl_X3_init_24 : Cond.fieldLink RX3 24 "ArcOrder$Net" "movers" "[I" ∈ wsX3_init := by decide +kernel
def f0_X3 : List Value := [.int 0, .int 0, .null, .null, .null, .null, .null]
abbrev rm_X3_init : Room := { frames := 1, cells := 5, slots := 60, locals := 40 }
def xNet (cy : Nat → ClassId) (q : Nat) (z : List va_W) : Prop := ∃ (a : Nat → Nat) (N : NetS), a 0 = q ∧ z = [sNet cy a N] ∧ NetR N 4 o0 id0 id0
set_option maxHeartbeats 4000000 in
set_option maxRecDepth 100000 in
theorem ok_X3_init (l : Launch) (D : va_G) (cy : Nat → ClassId) (q : Nat) : OKx l D cy yX3_init wsX3_init rm_X3_init [.ref q] [[(q, .inr (3, f0_X3))]] none (xNet cy q) 5 60 := by
  refine OKx.of (cc := cX3_init) (maxL := 1) (ret := none) (by decide) rfl (Nat.le_of_ble_eq_true rfl) (fun G F Rq => ?_)
  show Go G 0 0 0 [(0, .ref q)] [] [[(q, .inr (3, f0_X3))]]
  replace F : Fx G cX3_init wsX3_init RX3 cy 1 (rm_X3_init) := F
  replace Rq : Rx G "<init>" none none (xNet cy q) 5 60 := Rq
  refine g_aload_n F dX3_init_0 rfl 0 rfl ?_
  refine g_obj F dX3_init_1 ob_X3_init (by decide) ?_
  refine g_aload_n F dX3_init_4 rfl 0 rfl ?_
  refine g_bipush F (v := (12 : Int32)) dX3_init_5 (by decide) ?_
  refine g_newa F (N := 12) (t0 := 0) (ty := .int) (a0 := (12, .inl z0)) dX3_init_7 na_X3_init_int rfl rfl va_RA_i (fun _ => rfl) (by decide) (by decide) (by decide) (by decide) (fun q1 => ?_)
  refine g_putF F Rq (C := RX3) (T := TX3) (N := 7) (ci := 3) (v := .ref q1) (sg' := [[(q, .inr (3, [.int 0, .int 0, .ref q1, .null, .null, .null, .null]))], [(q1, .inl (cy 0, 12, .inl z0))]]) hi_X3_init_X3 tyX3 tyX3_ok nmX3 0 0 2 dX3_init_9 rfl rfl (by decide) fl_X3_init_9 rfl rfl rfl rfl rfl (Nat.le_of_ble_eq_true rfl) rfl ?_
  refine g_aload_n F dX3_init_12 rfl 0 rfl ?_
  refine g_bipush F (v := (12 : Int32)) dX3_init_13 (by decide) ?_
  refine g_newa F (N := 12) (t0 := 0) (ty := .int) (a0 := (12, .inl z0)) dX3_init_15 na_X3_init_int rfl rfl va_RA_i (fun _ => rfl) (by decide) (by decide) (by decide) (by decide) (fun q2 => ?_)
  refine g_putF F Rq (C := RX3) (T := TX3) (N := 7) (ci := 3) (v := .ref q2) (sg' := [[(q, .inr (3, [.int 0, .int 0, .ref q1, .ref q2, .null, .null, .null]))], [(q1, .inl (cy 0, 12, .inl z0))], [(q2, .inl (cy 0, 12, .inl z0))]]) hi_X3_init_X3 tyX3 tyX3_ok nmX3 0 0 3 dX3_init_17 rfl rfl (by decide) fl_X3_init_15 rfl rfl rfl rfl rfl (Nat.le_of_ble_eq_true rfl) rfl ?_
  refine g_aload_n F dX3_init_20 rfl 0 rfl ?_
  refine g_bipush F (v := (12 : Int32)) dX3_init_21 (by decide) ?_
  refine g_newa F (N := 12) (t0 := 0) (ty := .int) (a0 := (12, .inl z0)) dX3_init_23 na_X3_init_int rfl rfl va_RA_i (fun _ => rfl) (by decide) (by decide) (by decide) (by decide) (fun q3 => ?_)
  refine g_putF F Rq (C := RX3) (T := TX3) (N := 7) (ci := 3) (v := .ref q3) (sg' := [[(q, .inr (3, [.int 0, .int 0, .ref q1, .ref q2, .ref q3, .null, .null]))], [(q1, .inl (cy 0, 12, .inl z0))], [(q2, .inl (cy 0, 12, .inl z0))], [(q3, .inl (cy 0, 12, .inl z0))]]) hi_X3_init_X3 tyX3 tyX3_ok nmX3 0 0 4 dX3_init_25 rfl rfl (by decide) fl_X3_init_18 rfl rfl rfl rfl rfl (Nat.le_of_ble_eq_true rfl) rfl ?_
  refine g_aload_n F dX3_init_28 rfl 0 rfl ?_
  refine g_bipush F (v := (12 : Int32)) dX3_init_29 (by decide) ?_
  refine g_newa F (N := 12) (t0 := 0) (ty := .int) (a0 := (12, .inl z0)) dX3_init_31 na_X3_init_int rfl rfl va_RA_i (fun _ => rfl) (by decide) (by decide) (by decide) (by decide) (fun q4 => ?_)
  refine g_putF F Rq (C := RX3) (T := TX3) (N := 7) (ci := 3) (v := .ref q4) (sg' := [[(q, .inr (3, [.int 0, .int 0, .ref q1, .ref q2, .ref q3, .ref q4, .null]))], [(q1, .inl (cy 0, 12, .inl z0))], [(q2, .inl (cy 0, 12, .inl z0))], [(q3, .inl (cy 0, 12, .inl z0))], [(q4, .inl (cy 0, 12, .inl z0))]]) hi_X3_init_X3 tyX3 tyX3_ok nmX3 0 0 5 dX3_init_33 rfl rfl (by decide) fl_X3_init_21 rfl rfl rfl rfl rfl (Nat.le_of_ble_eq_true rfl) rfl ?_
  refine g_aload_n F dX3_init_36 rfl 0 rfl ?_
  refine g_bipush F (v := (12 : Int32)) dX3_init_37 (by decide) ?_
  refine g_newa F (N := 12) (t0 := 0) (ty := .int) (a0 := (12, .inl z0)) dX3_init_39 na_X3_init_int rfl rfl va_RA_i (fun _ => rfl) (by decide) (by decide) (by decide) (by decide) (fun q5 => ?_)
  refine g_putF F Rq (C := RX3) (T := TX3) (N := 7) (ci := 3) (v := .ref q5) (sg' := [[(q, .inr (3, [.int 0, .int 0, .ref q1, .ref q2, .ref q3, .ref q4, .ref q5]))], [(q1, .inl (cy 0, 12, .inl z0))], [(q2, .inl (cy 0, 12, .inl z0))], [(q3, .inl (cy 0, 12, .inl z0))], [(q4, .inl (cy 0, 12, .inl z0))], [(q5, .inl (cy 0, 12, .inl z0))]]) hi_X3_init_X3 tyX3 tyX3_ok nmX3 0 0 6 dX3_init_41 rfl rfl (by decide) fl_X3_init_24 rfl rfl rfl rfl rfl (Nat.le_of_ble_eq_true rfl) rfl ?_
  refine Go.world (sg' := [sNet cy (fun k => if k = 0 then q else if k = 3 then q1 else if k = 4 then q2 else if k = 5 then q3 else if k = 6 then q4 else if k = 7 then q5 else 0) (0, 0, z0, z0, z0, z0, z0)]) rfl ?_
  obtain ⟨N1, e1, h1⟩ := begin_eq (n := 4) (0, 0, z0, z0, z0, z0, z0) (by omega)
  refine g_aload_n F dX3_init_44 rfl 0 rfl ?_
  refine g_iconst F (v := nI 4) dX3_init_45 (by decide) ?_
  refine g_cV F (C := RX3) (ci := 3) (st := []) (st' := []) (sg' := [sNet cy (fun k => if k = 0 then q else if k = 3 then q1 else if k = 4 then q2 else if k = 5 then q3 else if k = 6 then q4 else if k = 7 then q5 else 0) N1]) (cs' := [sNet cy (fun k => if k = 0 then q else if k = 3 then q1 else if k = 4 then q2 else if k = 5 then q3 else if k = 6 then q4 else if k = 7 then q5 else 0) N1]) [.int (nI 4)] 0 0 (ok_X3_begin (gl G) (gD G) cy (fun k => if k = 0 then q else if k = 3 then q1 else if k = 4 then q2 else if k = 5 then q3 else if k = 6 then q4 else if k = 7 then q5 else 0) (0, 0, z0, z0, z0, z0, z0) (nI 4) N1 e1) dX3_init_46 rfl rfl gX3_init_X3_begin rfl ⟨rfl, cd_X3_begin⟩ (by decide) rfl (by decide) [0] (by decide) rfl rfl rfl rfl ?_
  exact g_vret F Rq ⟨(fun k => if k = 0 then q else if k = 3 then q1 else if k = 4 then q2 else if k = 5 then q3 else if k = 6 then q4 else if k = 7 then q5 else 0), N1, rfl, rfl, h1⟩ dX3_init_49
theorem hi_X5_init_X5 : ∀ w ∈ u_ws RX5 TX5 6, w ∈ wsX5_init := by decide +kernel
theorem ob_X5_init : Cond.methodLink RX5 3 objectInit ∈ wsX5_init ∧ Cond.instanceMethod objectInit ∈ wsX5_init ∧ Cond.code objectInit ⟨#[0xb1]⟩ 1 none ∈ wsX5_init := by decide +kernel
theorem na_X5_init_int : Cond.arrayClass .int ∈ wsX5_init := by decide +kernel
theorem fl_X5_init_9 : Cond.fieldLink RX5 9 "ArcOrder$Sight" "movers" "[I" ∈ wsX5_init := by decide +kernel
def f0_X5 : List Value := [.int 0, .int 0, .int 0, .int 0, .int 0, .null]
abbrev rm_X5_init : Room := { frames := 1, cells := 1, slots := 12, locals := 12 }
def xSgt (cy : Nat → ClassId) (q : Nat) (z : List va_W) : Prop := ∃ (a : Nat → Nat), a 0 = q ∧ z = [sSgt cy a (z0, z0)]
set_option maxHeartbeats 4000000 in
set_option maxRecDepth 100000 in
theorem ok_X5_init (l : Launch) (D : va_G) (cy : Nat → ClassId) (q : Nat) : OKx l D cy yX5_init wsX5_init rm_X5_init [.ref q] [[(q, .inr (5, f0_X5))]] none (xSgt cy q) 1 12 := by
  refine OKx.of (cc := cX5_init) (maxL := 1) (ret := none) (by decide) rfl (Nat.le_of_ble_eq_true rfl) (fun G F Rq => ?_)
  show Go G 0 0 0 [(0, .ref q)] [] [[(q, .inr (5, f0_X5))]]
  replace F : Fx G cX5_init wsX5_init RX5 cy 1 (rm_X5_init) := F
  replace Rq : Rx G "<init>" none none (xSgt cy q) 1 12 := Rq
  refine g_aload_n F dX5_init_0 rfl 0 rfl ?_
  refine g_obj F dX5_init_1 ob_X5_init (by decide) ?_
  refine g_aload_n F dX5_init_4 rfl 0 rfl ?_
  refine g_bipush F (v := (12 : Int32)) dX5_init_5 (by decide) ?_
  refine g_newa F (N := 12) (t0 := 0) (ty := .int) (a0 := (12, .inl z0)) dX5_init_7 na_X5_init_int rfl rfl va_RA_i (fun _ => rfl) (by decide) (by decide) (by decide) (by decide) (fun q1 => ?_)
  refine g_putF F Rq (C := RX5) (T := TX5) (N := 6) (ci := 5) (v := .ref q1) (sg' := [[(q, .inr (5, [.int 0, .int 0, .int 0, .int 0, .int 0, .ref q1]))], [(q1, .inl (cy 0, 12, .inl z0))]]) hi_X5_init_X5 tyX5 tyX5_ok nmX5 0 0 5 dX5_init_9 rfl rfl (by decide) fl_X5_init_9 rfl rfl rfl rfl rfl (Nat.le_of_ble_eq_true rfl) rfl ?_
  refine Go.world (sg' := [sSgt cy (fun k => if k = 0 then q else if k = 6 then q1 else 0) (z0, z0)]) rfl ?_
  exact g_vret F Rq ⟨(fun k => if k = 0 then q else if k = 6 then q1 else 0), rfl, rfl⟩ dX5_init_12
theorem hi_X7_init_X7 : ∀ w ∈ u_ws RX7 TX7 6, w ∈ wsX7_init := by decide +kernel
theorem ob_X7_init : Cond.methodLink RX7 3 objectInit ∈ wsX7_init ∧ Cond.instanceMethod objectInit ∈ wsX7_init ∧ Cond.code objectInit ⟨#[0xb1]⟩ 1 none ∈ wsX7_init := by decide +kernel
theorem na_X7_init_int : Cond.arrayClass .int ∈ wsX7_init := by decide +kernel
theorem fl_X7_init_9 : Cond.fieldLink RX7 9 "ArcOrder$Text" "letters" "[I" ∈ wsX7_init := by decide +kernel
def f0_X7 : List Value := [.int 0, .null, .int 0, .int 0, .int 0, .int 0]
abbrev rm_X7_init : Room := { frames := 1, cells := 1, slots := 120, locals := 12 }
def xTxt (cy : Nat → ClassId) (q : Nat) (z : List va_W) : Prop := ∃ (a : Nat → Nat), a 0 = q ∧ z = [sTxt cy a (z0, z0)]
set_option maxHeartbeats 4000000 in
set_option maxRecDepth 100000 in
theorem ok_X7_init (l : Launch) (D : va_G) (cy : Nat → ClassId) (q : Nat) : OKx l D cy yX7_init wsX7_init rm_X7_init [.ref q] [[(q, .inr (7, f0_X7))]] none (xTxt cy q) 1 120 := by
  refine OKx.of (cc := cX7_init) (maxL := 1) (ret := none) (by decide) rfl (Nat.le_of_ble_eq_true rfl) (fun G F Rq => ?_)
  show Go G 0 0 0 [(0, .ref q)] [] [[(q, .inr (7, f0_X7))]]
  replace F : Fx G cX7_init wsX7_init RX7 cy 1 (rm_X7_init) := F
  replace Rq : Rx G "<init>" none none (xTxt cy q) 1 120 := Rq
  refine g_aload_n F dX7_init_0 rfl 0 rfl ?_
  refine g_obj F dX7_init_1 ob_X7_init (by decide) ?_
  refine g_aload_n F dX7_init_4 rfl 0 rfl ?_
  refine g_bipush F (v := (120 : Int32)) dX7_init_5 (by decide) ?_
  refine g_newa F (N := 120) (t0 := 0) (ty := .int) (a0 := (120, .inl z0)) dX7_init_7 na_X7_init_int rfl rfl va_RA_i (fun _ => rfl) (by decide) (by decide) (by decide) (by decide) (fun q1 => ?_)
  refine g_putF F Rq (C := RX7) (T := TX7) (N := 6) (ci := 7) (v := .ref q1) (sg' := [[(q, .inr (7, [.int 0, .ref q1, .int 0, .int 0, .int 0, .int 0]))], [(q1, .inl (cy 0, 120, .inl z0))]]) hi_X7_init_X7 tyX7 tyX7_ok nmX7 0 0 1 dX7_init_9 rfl rfl (by decide) fl_X7_init_9 rfl rfl rfl rfl rfl (Nat.le_of_ble_eq_true rfl) rfl ?_
  refine Go.world (sg' := [sTxt cy (fun k => if k = 0 then q else if k = 2 then q1 else 0) (z0, z0)]) rfl ?_
  exact g_vret F Rq ⟨(fun k => if k = 0 then q else if k = 2 then q1 else 0), rfl, rfl⟩ dX7_init_12
