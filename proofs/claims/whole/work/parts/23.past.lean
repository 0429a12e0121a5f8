/-! ===== Past, by hand: an array of references to ten nets, which loseOldest turns round ===== -/
section GP
variable {G : GX} {cc : ByteArray} {Ts : List Cond} {own : String} {cy : Nat → ClassId} {nM : Nat} {rm : Room} {a b pc : Nat} {lv lv' : List (Nat × Value)} {st : List Value} {sg sg' : List va_W}
theorem g_aast (F : Fx G cc Ts own cy nM rm) {hh n v : Nat} {f : Nat → Option Nat} {x : Int32} {vs : List Value} (i j : Nat) (hin : vp_in x n) (hd : decode cc pc = .ok (.aastore, 1)) (he : cellAt sg i j = some (hh, .inl (cy 3, n, .inr (.inr (.inr (.inr f)))))) (hv : (v, .inr (3, vs)) ∈ sg.flatten) (hset : setCell sg i j (hh, .inl (cy 3, n, .inr (.inr (.inr (.inr (va_up f x.toNatClampNeg (some v))))))) = sg') (K : Go G a b (pc + 1) lv st sg') : Go G a b pc lv (.ref v :: .int x :: .ref hh :: st) sg := by
  obtain ⟨p, l, e, R, s, m, args, below, meth, c, nL, D, A, Q⟩ := G
  obtain ⟨hx, hb, hml, hown, hts, hK, hN, hlk, hA, hR, hnL⟩ := F
  intro H locs ls hP hD hS hl
  obtain ⟨q, hq, hs⟩ := cellAt_flat sg i j _ he
  obtain ⟨qk, hqk⟩ := List.getElem?_of_mem hv
  refine va_astq (r := (RX3, TX3, 7)) hx hb hK hP hD hS q 3 qk 3 hq rfl hqk rfl hin hd (fun H locs hP hD hS => ?_)
  rw [hs, hset] at hP hD
  exact K H locs ls hP hD hS hl
theorem g_aaldP (F : Fx G cc Ts own cy nM rm) {hh n : Nat} (v : Nat) {f : Nat → Option Nat} {x : Int32} (hin : vp_in x n) (i j : Nat) (hd : decode cc pc = .ok (.aaload, 1)) (he : cellAt sg i j = some (hh, .inl (cy 3, n, .inr (.inr (.inr (.inr f)))))) (hv : f x.toNatClampNeg = some v) (K : Go G a b (pc + 1) lv (.ref v :: st) sg) : Go G a b pc lv (.int x :: .ref hh :: st) sg := by
  obtain ⟨p, l, e, R, s, m, args, below, meth, c, nL, D, A, Q⟩ := G
  obtain ⟨hx, hb, hml, hown, hts, hK, hN, hlk, hA, hR, hnL⟩ := F
  intro H locs ls hP hD hS hl
  obtain ⟨q, hq, -⟩ := cellAt_flat sg i j _ he
  have h2 : va_rf (f x.toNatClampNeg) = .ref v := by rw [hv]; rfl
  exact va_aldq hx hb hK hP q 3 hq rfl hin hd (by rw [h2]; exact K H locs ls hP hD hS hl)
theorem g_ge_t (F : Fx G cc Ts own cy nM rm) {x y : Int32} {off : Int} (tgt : Nat) (hc : y ≤ x) (hd : decode cc pc = .ok (.if_icmp .ge off, 3)) (ht : (pc : Int) + off = (tgt : Int)) (K : Go G a b tgt lv st sg) : Go G a b pc lv (.int y :: .int x :: st) sg := by
  obtain ⟨p, l, e, R, s, m, args, below, meth, c, nL, D, A, Q⟩ := G
  obtain ⟨hx, hb, hml, hown, hts, hK, hN, hlk, hA, hR, hnL⟩ := F
  intro H locs ls hP hD hS hl
  exact lv_icmp_ge hx hb hd ht (fun _ => K H locs ls hP hD hS hl) (fun h => absurd hc h)
theorem g_ge_f (F : Fx G cc Ts own cy nM rm) {x y : Int32} {off : Int} (tgt : Nat) (hc : ¬ y ≤ x) (hd : decode cc pc = .ok (.if_icmp .ge off, 3)) (ht : (pc : Int) + off = (tgt : Int)) (K : Go G a b (pc + 3) lv st sg) : Go G a b pc lv (.int y :: .int x :: st) sg := by
  obtain ⟨p, l, e, R, s, m, args, below, meth, c, nL, D, A, Q⟩ := G
  obtain ⟨hx, hb, hml, hown, hts, hK, hN, hlk, hA, hR, hnL⟩ := F
  intro H locs ls hP hD hS hl
  exact lv_icmp_ge hx hb hd ht (fun h => absurd h hc) (fun _ => K H locs ls hP hD hS hl)
end GP
def pws (cy : Nat → ClassId) (a : Nat → Nat) (X : PstS) : List va_W := [sP2 cy a X, pNet cy a X 0, pNet cy a X 1, pNet cy a X 2, pNet cy a X 3, pNet cy a X 4, pNet cy a X 5, pNet cy a X 6, pNet cy a X 7, pNet cy a X 8, pNet cy a X 9]
theorem pws_fl (cy : Nat → ClassId) (a : Nat → Nat) (X : PstS) (r : List va_W) : (sPst cy a X :: r).flatten = (pws cy a X ++ r).flatten := by
  rw [List.flatten_cons, List.flatten_append]; rfl
theorem pws_get (cy : Nat → ClassId) (a : Nat → Nat) (X : PstS) {j : Nat} (h : j < 10) : (pws cy a X)[1 + j]? = some (pNet cy a X j) := by
  match j, h with
  | 0, _ => rfl | 1, _ => rfl | 2, _ => rfl | 3, _ => rfl | 4, _ => rfl | 5, _ => rfl | 6, _ => rfl | 7, _ => rfl | 8, _ => rfl | 9, _ => rfl
  | j + 10, h => omega
theorem pws_put (cy : Nat → ClassId) (a : Nat → Nat) (X : PstS) (r : NetS) {j : Nat} (h : j < 10) : (pws cy a X).set (1 + j) (sNet cy (fun k => a (1000 + 10 * j + k)) r) = pws cy a (X.1, X.2.1, updN X.2.2 j r) := by
  match j, h with
  | 0, _ => rfl | 1, _ => rfl | 2, _ => rfl | 3, _ => rfl | 4, _ => rfl | 5, _ => rfl | 6, _ => rfl | 7, _ => rfl | 8, _ => rfl | 9, _ => rfl
  | j + 10, h => omega
theorem pws_obj (cy : Nat → ClassId) (a : Nat → Nat) (X : PstS) {j : Nat} (h : j < 10) (r : List va_W) : ∃ vs, (a (1000 + 10 * j), .inr (3, vs)) ∈ (pws cy a X ++ r).flatten := by
  have h1 : (a (1000 + 10 * j), Sum.inr (3, [.int (X.2.2 j).1, .int (X.2.2 j).2.1, .ref (a (1000 + 10 * j + 3)), .ref (a (1000 + 10 * j + 4)), .ref (a (1000 + 10 * j + 5)), .ref (a (1000 + 10 * j + 6)), .ref (a (1000 + 10 * j + 7))])) ∈ pNet cy a X j := List.mem_cons_self
  exact ⟨_, List.mem_flatten.mpr ⟨pNet cy a X j, List.mem_append_left _ (List.mem_of_getElem? (pws_get cy a X h)), h1⟩⟩
theorem refs_up (a : Nat → Nat) (ix : Nat → Nat) (k v : Nat) : va_up (fun i => some (a (1000 + 10 * ix i))) k (some (a (1000 + 10 * v))) = (fun i => some (a (1000 + 10 * va_up ix k v i))) := by
  funext j
  unfold va_up
  split <;> rfl
abbrev rm_X4_loseOldest : Room := { frames := 0, cells := 0, slots := 0, locals := 0 }
theorem hi_lo : ∀ w ∈ u_ws RX4 TX4 2, w ∈ wsX4_loseOldest := by decide +kernel
theorem fl_lo_11 : Cond.fieldLink RX4 11 "ArcOrder$Past" "nets" "[LArcOrder$Net;" ∈ wsX4_loseOldest := by decide +kernel
theorem fl_lo_18 : Cond.fieldLink RX4 18 "ArcOrder$Past" "size" "I" ∈ wsX4_loseOldest := by decide +kernel
set_option maxHeartbeats 4000000 in
set_option maxRecDepth 100000 in
theorem lo_loop {G : GX} {cy : Nat → ClassId} (a : Nat → Nat) (F : Fx G cX4_loseOldest wsX4_loseOldest RX4 cy 3 rm_X4_loseOldest) (v0 : Nat) (sz : Int32) (pool : Nat → NetS) : ∀ (n i : Nat) (ix : Nat → Nat), i + n = 9 → (∀ q, q < 10 → ix q < 10) → Go G 0 0 35 [(0, .ref (a 0)), (1, .ref v0)] [] (pws cy a (sz, shn n (i + 1) ix, pool)) → Go G 0 0 9 [(0, .ref (a 0)), (1, .ref v0), (2, .int (nI (i + 1)))] [] (pws cy a (sz, ix, pool)) := by
  intro n
  induction n with
  | zero =>
    intro i ix hi hix K
    have h9 : i = 9 := by omega
    subst h9
    refine g_iload_n F dX4_loseOldest_9 rfl 2 rfl ?_
    refine g_bipush F (v := (10 : Int32)) dX4_loseOldest_10 (by decide) ?_
    refine g_ge_t F 35 (by decide) dX4_loseOldest_12 (by decide) ?_
    exact Go.sub (lv' := [(0, .ref (a 0)), (1, .ref v0)]) [0, 1] rfl K
  | succ n ih =>
    intro i ix hi hix K
    have hlt : i + 1 < 10 := by omega
    refine g_iload_n F dX4_loseOldest_9 rfl 2 rfl ?_
    refine g_bipush F (v := (10 : Int32)) dX4_loseOldest_10 (by decide) ?_
    refine g_ge_f F 35 (nI_ge (b := 10) hlt (by decide)) dX4_loseOldest_12 (by decide) ?_
    refine g_aload_n F dX4_loseOldest_15 rfl 0 rfl ?_
    refine g_get F (C := RX4) (T := TX4) (N := 2) (ci := 4) (v := .ref (a 2)) hi_lo 0 0 1 dX4_loseOldest_16 rfl rfl (by decide) fl_lo_11 rfl ?_
    refine g_iload_n F dX4_loseOldest_19 rfl 2 rfl ?_
    refine g_iconst F (v := (1 : Int32)) dX4_loseOldest_20 (by decide) ?_
    refine g_isub F dX4_loseOldest_21 ?_
    refine g_aload_n F dX4_loseOldest_22 rfl 0 rfl ?_
    refine g_get F (C := RX4) (T := TX4) (N := 2) (ci := 4) (v := .ref (a 2)) hi_lo 0 0 1 dX4_loseOldest_23 rfl rfl (by decide) fl_lo_11 rfl ?_
    refine g_iload_n F dX4_loseOldest_26 rfl 2 rfl ?_
    refine g_aaldP F (a (1000 + 10 * ix (i + 1))) (n := 10) (vp_in_nI hlt (by decide)) 0 1 dX4_loseOldest_27 rfl (by rw [nI_clamp (by omega)]) ?_
    rw [nI_pred]
    obtain ⟨vs, hvs⟩ := pws_obj cy a (sz, ix, pool) (hix (i + 1) hlt) []
    refine g_aast F (n := 10) (sg' := pws cy a (sz, va_up ix i (ix (i + 1)), pool)) 0 1 (vp_in_nI (by omega) (by decide)) dX4_loseOldest_28 rfl (by simpa using hvs) (by rw [nI_clamp (by omega), refs_up]; rfl) ?_
    refine g_iinc F (v := nI (i + 1 + 1)) (lv' := [(2, .int (nI (i + 1 + 1))), (0, .ref (a 0)), (1, .ref v0)]) dX4_loseOldest_29 2 rfl (nI_1 (i + 1)) (by decide) rfl ?_
    refine g_goto F 9 dX4_loseOldest_32 (by decide) ?_
    refine Go.sub (lv' := [(0, .ref (a 0)), (1, .ref v0), (2, .int (nI (i + 1 + 1)))]) [1, 2, 0] rfl ?_
    refine ih (i + 1) (va_up ix i (ix (i + 1))) (by omega) (fun q hq => ?_) K
    unfold va_up
    split
    · exact hix _ hlt
    · exact hix q hq
set_option maxHeartbeats 4000000 in
set_option maxRecDepth 100000 in
theorem ok_X4_loseOldest (l : Launch) (D : va_G) (cy : Nat → ClassId) (a : Nat → Nat) (Pp : PstS) (out : PstS) (h : f_X4_loseOldest Pp = some out) : OK l D cy yX4_loseOldest wsX4_loseOldest rm_X4_loseOldest [.ref (a 0)] [(sPst cy a Pp)] none [(sPst cy a out)] := by
  refine OKx.of (cc := cX4_loseOldest) (maxL := 3) (ret := none) (by decide) rfl (Nat.le_of_ble_eq_true rfl) (fun G F Rq => ?_)
  show Go G 0 0 0 [(0, .ref (a 0))] [] [(sPst cy a Pp)]
  replace F : Fx G cX4_loseOldest wsX4_loseOldest RX4 cy 3 rm_X4_loseOldest := F
  replace Rq : Rx G "loseOldest" none none (fun z => z = [(sPst cy a out)]) 0 0 := Rq
  unfold f_X4_loseOldest at h
  obtain ⟨hall, h⟩ := grd h
  obtain rfl := Option.some.inj h
  obtain ⟨sz, ix, pool⟩ := Pp
  have hix : ∀ q, q < 10 → ix q < 10 := fun q hq => of_decide_eq_true (List.all_eq_true.mp hall q (List.mem_range.mpr hq))
  refine Go.world (sg' := pws cy a (sz, ix, pool)) (by rw [pws_fl, List.append_nil]) ?_
  refine g_aload_n F dX4_loseOldest_0 rfl 0 rfl ?_
  refine g_get F (C := RX4) (T := TX4) (N := 2) (ci := 4) (v := .ref (a 2)) hi_lo 0 0 1 dX4_loseOldest_1 rfl rfl (by decide) fl_lo_11 rfl ?_
  refine g_iconst F (v := nI 0) dX4_loseOldest_4 (by decide) ?_
  refine g_aaldP F (a (1000 + 10 * ix 0)) (n := 10) (vp_in_nI (by decide) (by decide)) 0 1 dX4_loseOldest_5 rfl (by rw [nI_clamp (by decide)]) ?_
  refine g_astore_n F (lv' := [(1, .ref (a (1000 + 10 * ix 0))), (0, .ref (a 0))]) dX4_loseOldest_6 rfl (by decide) rfl ?_
  refine g_iconst F (v := nI (0 + 1)) dX4_loseOldest_7 (by decide) ?_
  refine g_istore_n F (lv' := [(2, .int (nI (0 + 1))), (1, .ref (a (1000 + 10 * ix 0))), (0, .ref (a 0))]) dX4_loseOldest_8 rfl (by decide) rfl ?_
  refine Go.sub (lv' := [(0, .ref (a 0)), (1, .ref (a (1000 + 10 * ix 0))), (2, .int (nI (0 + 1)))]) [2, 1, 0] rfl ?_
  refine lo_loop a F _ sz pool 9 0 ix rfl hix ?_
  refine g_aload_n F dX4_loseOldest_35 rfl 0 rfl ?_
  refine g_get F (C := RX4) (T := TX4) (N := 2) (ci := 4) (v := .ref (a 2)) hi_lo 0 0 1 dX4_loseOldest_36 rfl rfl (by decide) fl_lo_11 rfl ?_
  refine g_bipush F (v := nI 9) dX4_loseOldest_39 (by decide) ?_
  refine g_aload_n F dX4_loseOldest_41 rfl 1 rfl ?_
  obtain ⟨vs, hvs⟩ := pws_obj cy a (sz, shn 9 (0 + 1) ix, pool) (hix 0 (by decide)) []
  refine g_aast F (n := 10) (sg' := pws cy a (sz, va_up (shn 9 (0 + 1) ix) 9 (ix 0), pool)) 0 1 (vp_in_nI (by decide) (by decide)) dX4_loseOldest_42 rfl (by simpa using hvs) (by rw [nI_clamp (by decide), refs_up]; rfl) ?_
  refine g_aload_n F dX4_loseOldest_43 rfl 0 rfl ?_
  refine g_bipush F (v := (9 : Int32)) dX4_loseOldest_44 (by decide) ?_
  refine Go.world (sg' := [(sPst cy a (sz, va_up (shn 9 (0 + 1) ix) 9 (ix 0), pool))]) (by rw [pws_fl, List.append_nil]) ?_
  refine g_put F (C := RX4) (T := TX4) (N := 2) (ci := 4) (v := .int (9 : Int32)) (ty := .int) (sg' := [(sPst cy a ((9 : Int32), lo_ix ix, pool))]) hi_lo tyX4 tyX4_ok nmX4 0 0 0 dX4_loseOldest_46 rfl rfl (by decide) fl_lo_18 rfl rfl rfl rfl (Nat.le_of_ble_eq_true rfl) rfl ?_
  exact g_vret F Rq rfl dX4_loseOldest_49
abbrev rm_X4_push : Room := { frames := 3, cells := 0, slots := 0, locals := 200 }
theorem hi_pu : ∀ w ∈ u_ws RX4 TX4 2, w ∈ wsX4_push := by decide +kernel
theorem fl_pu_11 : Cond.fieldLink RX4 11 "ArcOrder$Past" "nets" "[LArcOrder$Net;" ∈ wsX4_push := by decide +kernel
theorem fl_pu_18 : Cond.fieldLink RX4 18 "ArcOrder$Past" "size" "I" ∈ wsX4_push := by decide +kernel
theorem pws_pick (cy : Nat → ClassId) (a : Nat → Nat) (X : PstS) (N : va_W) {j : Nat} (h : j < 10) : [1 + j, 11].map (fun k => (pws cy a X ++ [N])[k]?) = [pNet cy a X j, N].map some := by
  have e1 : (pws cy a X ++ [N])[1 + j]? = some (pNet cy a X j) := by
    rw [List.getElem?_append_left (by show 1 + j < 11; omega)]; exact pws_get cy a X h
  show [(pws cy a X ++ [N])[1 + j]?, (pws cy a X ++ [N])[11]?] = [some (pNet cy a X j), some N]
  rw [e1]; rfl
theorem pws_back (cy : Nat → ClassId) (a : Nat → Nat) (X : PstS) (N N' : va_W) (r : NetS) {j : Nat} (h : j < 10) : sgPut (pws cy a X ++ [N]) [1 + j, 11] [sNet cy (fun k => a (1000 + 10 * j + k)) r, N'] = pws cy a (X.1, X.2.1, updN X.2.2 j r) ++ [N'] := by
  show ((pws cy a X ++ [N]).set (1 + j) _).set 11 N' = _
  rw [List.set_append_left _ _ (by show 1 + j < 11; omega), pws_put cy a X r h]
  rfl
theorem nd2 {j : Nat} (h : j < 10) : [1 + j, 11].Nodup := by
  rw [List.nodup_cons]
  exact ⟨fun q => by have := List.mem_singleton.mp q; omega, by decide⟩
set_option maxHeartbeats 4000000 in
set_option maxRecDepth 100000 in
theorem push_tail {G : GX} {cy : Nat → ClassId} (a a1 : Nat → Nat) (N1 : NetS) {out : PstS} (F : Fx G cX4_push wsX4_push RX4 cy 2 rm_X4_push) (Rq : Rx G "push" none none (fun z => z = [(sPst cy a out), (sNet cy a1 N1)]) 0 0) (Pp : PstS) (h : f_X4_put1 Pp N1 = some out) : Go G 0 0 13 [(0, .ref (a 0)), (1, .ref (a1 0))] [] [(sPst cy a Pp), (sNet cy a1 N1)] := by
  unfold f_X4_put1 at h
  refine Go.world (sg' := pws cy a Pp ++ [sNet cy a1 N1]) (pws_fl cy a Pp _) ?_
  refine g_aload_n F dX4_push_13 rfl 0 rfl ?_
  refine g_get F (C := RX4) (T := TX4) (N := 2) (ci := 4) (v := .ref (a 2)) hi_pu 0 0 1 dX4_push_14 rfl rfl (by decide) fl_pu_11 rfl ?_
  refine g_aload_n F dX4_push_17 rfl 0 rfl ?_
  refine g_get F (C := RX4) (T := TX4) (N := 2) (ci := 4) (v := .int Pp.1) hi_pu 0 0 0 dX4_push_18 rfl rfl (by decide) fl_pu_18 rfl ?_
  obtain ⟨hin, h⟩ := inR_some h
  obtain ⟨hj, h⟩ := grd h
  obtain ⟨r, hr, h⟩ := bnd h
  obtain rfl := Option.some.inj h
  refine g_aaldP F (a (1000 + 10 * Pp.2.1 Pp.1.toNatClampNeg)) hin 0 1 dX4_push_21 rfl rfl ?_
  refine g_aload_n F dX4_push_22 rfl 1 rfl ?_
  refine g_cV F [.ref (a1 0)] 0 0 (ok_X3_copyOf (gl G) (gD G) cy (fun k => a (1000 + 10 * Pp.2.1 Pp.1.toNatClampNeg + k)) a1 (Pp.2.2 (Pp.2.1 Pp.1.toNatClampNeg)) N1 r hr) dX4_push_23 rfl rfl gX4_push_X3_copyOf rfl ⟨rfl, cd_X3_copyOf⟩ (by decide) rfl (Nat.le_of_ble_eq_true rfl) [1 + Pp.2.1 Pp.1.toNatClampNeg, 11] (nd2 hj) (pws_pick cy a Pp _ hj) rfl (pws_back cy a Pp _ _ r hj) (st' := []) rfl ?_
  refine Go.world (sg' := [(sPst cy a (Pp.1, Pp.2.1, updN Pp.2.2 (Pp.2.1 Pp.1.toNatClampNeg) r)), (sNet cy a1 N1)]) (pws_fl cy a _ _).symm ?_
  refine g_aload_n F dX4_push_26 rfl 0 rfl ?_
  refine g_dup F dX4_push_27 rfl ?_
  refine g_get F (C := RX4) (T := TX4) (N := 2) (ci := 4) (v := .int Pp.1) hi_pu 0 0 0 dX4_push_28 rfl rfl (by decide) fl_pu_18 rfl ?_
  refine g_iconst F (v := (1 : Int32)) dX4_push_31 (by decide) ?_
  refine g_iadd F dX4_push_32 ?_
  refine g_put F (C := RX4) (T := TX4) (N := 2) (ci := 4) (v := .int (Pp.1 + 1)) (ty := .int) (sg' := [(sPst cy a (Pp.1 + 1, Pp.2.1, updN Pp.2.2 (Pp.2.1 Pp.1.toNatClampNeg) r)), (sNet cy a1 N1)]) hi_pu tyX4 tyX4_ok nmX4 0 0 0 dX4_push_33 rfl rfl (by decide) fl_pu_18 rfl rfl rfl rfl (Nat.le_of_ble_eq_true rfl) rfl ?_
  exact g_vret F Rq rfl dX4_push_36
set_option maxHeartbeats 4000000 in
set_option maxRecDepth 100000 in
theorem ok_X4_push (l : Launch) (D : va_G) (cy : Nat → ClassId) (a a1 : Nat → Nat) (Pp : PstS) (N1 : NetS) (out : PstS) (h : f_X4_push Pp N1 = some out) : OK l D cy yX4_push wsX4_push rm_X4_push [.ref (a 0), .ref (a1 0)] [(sPst cy a Pp), (sNet cy a1 N1)] none [(sPst cy a out), (sNet cy a1 N1)] := by
  refine OKx.of (cc := cX4_push) (maxL := 2) (ret := none) (by decide) rfl (Nat.le_of_ble_eq_true rfl) (fun G F Rq => ?_)
  show Go G 0 0 0 [(0, .ref (a 0)), (1, .ref (a1 0))] [] [(sPst cy a Pp), (sNet cy a1 N1)]
  replace F : Fx G cX4_push wsX4_push RX4 cy 2 rm_X4_push := F
  replace Rq : Rx G "push" none none (fun z => z = [(sPst cy a out), (sNet cy a1 N1)]) 0 0 := Rq
  unfold f_X4_push at h
  refine g_aload_n F dX4_push_0 rfl 0 rfl ?_
  refine g_get F (C := RX4) (T := TX4) (N := 2) (ci := 4) (v := .int Pp.1) hi_pu 0 0 0 dX4_push_1 rfl rfl (by decide) fl_pu_18 rfl ?_
  refine g_bipush F (v := (10 : Int32)) dX4_push_4 (by decide) ?_
  refine g_icmp_lt F 13 h dX4_push_6 (by decide) (fun h => ?_) (fun h => ?_)
  · exact push_tail a a1 N1 F Rq Pp h
  · refine g_aload_n F dX4_push_9 rfl 0 rfl ?_
    obtain ⟨r, hr, h⟩ := bnd h
    refine g_cV F [] 0 0 (ok_X4_loseOldest (gl G) (gD G) cy a Pp r hr) dX4_push_10 rfl rfl gX4_push_X4_loseOldest rfl ⟨rfl, cd_X4_loseOldest⟩ (by decide) rfl (Nat.le_of_ble_eq_true rfl) [0] (by decide) rfl rfl (sg' := [(sPst cy a r), (sNet cy a1 N1)]) (st' := []) rfl rfl ?_
    exact push_tail a a1 N1 F Rq r h
abbrev rm_X4_pop : Room := { frames := 3, cells := 0, slots := 0, locals := 200 }
theorem hi_po : ∀ w ∈ u_ws RX4 TX4 2, w ∈ wsX4_pop := by decide +kernel
theorem fl_po_11 : Cond.fieldLink RX4 11 "ArcOrder$Past" "nets" "[LArcOrder$Net;" ∈ wsX4_pop := by decide +kernel
theorem fl_po_18 : Cond.fieldLink RX4 18 "ArcOrder$Past" "size" "I" ∈ wsX4_pop := by decide +kernel
theorem pws_pick2 (cy : Nat → ClassId) (a : Nat → Nat) (X : PstS) (N : va_W) {j : Nat} (h : j < 10) : [11, 1 + j].map (fun k => (pws cy a X ++ [N])[k]?) = [N, pNet cy a X j].map some := by
  have e1 : (pws cy a X ++ [N])[1 + j]? = some (pNet cy a X j) := by
    rw [List.getElem?_append_left (by show 1 + j < 11; omega)]; exact pws_get cy a X h
  show [(pws cy a X ++ [N])[11]?, (pws cy a X ++ [N])[1 + j]?] = [some N, some (pNet cy a X j)]
  rw [e1]; rfl
theorem pws_back2 (cy : Nat → ClassId) (a : Nat → Nat) (X : PstS) (N N' : va_W) {j : Nat} (h : j < 10) : sgPut (pws cy a X ++ [N]) [11, 1 + j] [N', pNet cy a X j] = pws cy a X ++ [N'] := by
  show ((pws cy a X ++ [N]).set 11 N').set (1 + j) _ = _
  have e0 : (pws cy a X ++ [N]).set 11 N' = pws cy a X ++ [N'] := rfl
  rw [e0, List.set_append_left _ _ (by show 1 + j < 11; omega), set_same _ _ _ (pws_get cy a X h)]
theorem nd3 {j : Nat} (h : j < 10) : [11, 1 + j].Nodup := by
  rw [List.nodup_cons]
  exact ⟨fun q => by have := List.mem_singleton.mp q; omega, List.nodup_cons.mpr ⟨List.not_mem_nil, List.nodup_nil⟩⟩
set_option maxHeartbeats 4000000 in
set_option maxRecDepth 100000 in
theorem ok_X4_pop (l : Launch) (D : va_G) (cy : Nat → ClassId) (a a1 : Nat → Nat) (Pp : PstS) (N1 : NetS) (out : Int32 × PstS × NetS) (h : f_X4_pop Pp N1 = some out) : OK l D cy yX4_pop wsX4_pop rm_X4_pop [.ref (a 0), .ref (a1 0)] [(sPst cy a Pp), (sNet cy a1 N1)] (some (.int out.1)) [(sPst cy a out.2.1), (sNet cy a1 out.2.2)] := by
  refine OKx.of (cc := cX4_pop) (maxL := 2) (ret := (some .boolean)) (by decide) rfl (Nat.le_of_ble_eq_true rfl) (fun G F Rq => ?_)
  show Go G 0 0 0 [(0, .ref (a 0)), (1, .ref (a1 0))] [] [(sPst cy a Pp), (sNet cy a1 N1)]
  replace F : Fx G cX4_pop wsX4_pop RX4 cy 2 rm_X4_pop := F
  replace Rq : Rx G "pop" (some .boolean) (some (.int out.1)) (fun z => z = [(sPst cy a out.2.1), (sNet cy a1 out.2.2)]) 0 0 := Rq
  unfold f_X4_pop at h
  refine g_aload_n F dX4_pop_0 rfl 0 rfl ?_
  refine g_get F (C := RX4) (T := TX4) (N := 2) (ci := 4) (v := .int Pp.1) hi_po 0 0 0 dX4_pop_1 rfl rfl (by decide) fl_po_18 rfl ?_
  refine g_if_ne F 9 h dX4_pop_4 (by decide) (fun h => ?_) (fun h => ?_)
  · refine g_aload_n F dX4_pop_9 rfl 0 rfl ?_
    refine g_dup F dX4_pop_10 rfl ?_
    refine g_get F (C := RX4) (T := TX4) (N := 2) (ci := 4) (v := .int Pp.1) hi_po 0 0 0 dX4_pop_11 rfl rfl (by decide) fl_po_18 rfl ?_
    refine g_iconst F (v := (1 : Int32)) dX4_pop_14 (by decide) ?_
    refine g_isub F dX4_pop_15 ?_
    refine g_put F (C := RX4) (T := TX4) (N := 2) (ci := 4) (v := .int (Pp.1 - 1)) (ty := .int) (sg' := [(sPst cy a (Pp.1 - 1, Pp.2)), (sNet cy a1 N1)]) hi_po tyX4 tyX4_ok nmX4 0 0 0 dX4_pop_16 rfl rfl (by decide) fl_po_18 rfl rfl rfl rfl (Nat.le_of_ble_eq_true rfl) rfl ?_
    refine g_aload_n F dX4_pop_19 rfl 1 rfl ?_
    refine g_aload_n F dX4_pop_20 rfl 0 rfl ?_
    refine Go.world (sg' := pws cy a (Pp.1 - 1, Pp.2) ++ [sNet cy a1 N1]) (pws_fl cy a _ _) ?_
    refine g_get F (C := RX4) (T := TX4) (N := 2) (ci := 4) (v := .ref (a 2)) hi_po 0 0 1 dX4_pop_21 rfl rfl (by decide) fl_po_11 rfl ?_
    refine g_aload_n F dX4_pop_24 rfl 0 rfl ?_
    refine g_get F (C := RX4) (T := TX4) (N := 2) (ci := 4) (v := .int (Pp.1 - 1)) hi_po 0 0 0 dX4_pop_25 rfl rfl (by decide) fl_po_18 rfl ?_
    obtain ⟨hin, h⟩ := inR_some h
    obtain ⟨hj, h⟩ := grd h
    obtain ⟨r, hr, h⟩ := bnd h
    obtain rfl := Option.some.inj h
    refine g_aaldP F (a (1000 + 10 * Pp.2.1 (Pp.1 - 1).toNatClampNeg)) hin 0 1 dX4_pop_28 rfl rfl ?_
    refine g_cV F [.ref (a (1000 + 10 * Pp.2.1 (Pp.1 - 1).toNatClampNeg))] 0 0 (ok_X3_copyOf (gl G) (gD G) cy a1 (fun k => a (1000 + 10 * Pp.2.1 (Pp.1 - 1).toNatClampNeg + k)) N1 (Pp.2.2 (Pp.2.1 (Pp.1 - 1).toNatClampNeg)) r hr) dX4_pop_29 rfl rfl gX4_pop_X3_copyOf rfl ⟨rfl, cd_X3_copyOf⟩ (by decide) rfl (Nat.le_of_ble_eq_true rfl) [11, 1 + Pp.2.1 (Pp.1 - 1).toNatClampNeg] (nd3 hj) (pws_pick2 cy a (Pp.1 - 1, Pp.2) _ hj) rfl (pws_back2 cy a (Pp.1 - 1, Pp.2) _ _ hj) (st' := []) rfl ?_
    refine Go.world (sg' := [(sPst cy a (Pp.1 - 1, Pp.2)), (sNet cy a1 r)]) (pws_fl cy a _ _).symm ?_
    refine g_iconst F (v := (1 : Int32)) dX4_pop_32 (by decide) ?_
    exact g_zret F Rq rfl rfl dX4_pop_33
  · refine g_iconst F (v := (0 : Int32)) dX4_pop_7 (by decide) ?_
    obtain rfl := Option.some.inj h
    exact g_zret F Rq rfl rfl dX4_pop_8
