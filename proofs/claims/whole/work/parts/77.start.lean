/-! ===== from the law's entry to its loop ===== -/
theorem ne_L_8 : Cond.classLink RL 7 RX8 ∈ wsL_law ∧ Cond.instantiable RX8 11 ∈ wsL_law ∧ Cond.initialized RX8 ∈ wsL_law ∧ Cond.methodLink RL 9 yX8_init ∈ wsL_law ∧ Cond.instanceMethod yX8_init ∈ wsL_law := by decide +kernel
theorem ne_L_9 : Cond.classLink RL 10 RX9 ∈ wsL_law ∧ Cond.instantiable RX9 36 ∈ wsL_law ∧ Cond.initialized RX9 ∈ wsL_law ∧ Cond.methodLink RL 12 yX9_init ∈ wsL_law ∧ Cond.instanceMethod yX9_init ∈ wsL_law := by decide +kernel
theorem rel_0 {Nn i0 i1 Dd : NetS} {pool : Nat → NetS} {M : ModS} {s0 ik : Nat → Int32} (hN : NetR Nn 4 o0 id0 id0) (hM : M 2 = nI 0 ∧ M 8 = nI 4 ∧ M 17 = nI 0 ∧ M 20 = nI 0 ∧ M 22 = nI 0 ∧ M 25 = nI 0 ∧ RefR s0 4 o0 id0 ∧ ik 0 = nI 0 ∧ ik 1 = nI 0) : Rel Nn (z0, z0) (0, z0, z0) (0, ix0, pool) (0, z0, z0) (z0, z0) (0, zJ) Dd i0 i1 z0 M z0 s0 z0 z0 z0 z0 z0 z0 z0 ik := by
  obtain ⟨m2, m8, m17, m20, m22, m25, hS, k0, k1⟩ := hM
  refine ⟨4, o0, id0, id0, good0 (by omega) (by omega), hN, m8, hS, ⟨0, (fun _ => 0), by omega, rfl, m2, fun i hi => by omega, fun i hi => by omega⟩, lst0 (L := (0, z0, z0)) m20, ⟨0, by omega, rfl, m17, fun i hi => hi, fun i j _ _ e => e, fun i hi => by omega⟩, ⟨0, by omega, rfl, m22, fun i hi => by omega⟩, ⟨0, (fun _ => 0), (fun _ => false), by omega, rfl, m25, fun i hi => by omega, rfl, rfl⟩, Or.inl rfl, ⟨⟨k0.symm, k1.symm⟩, fun z => absurd rfl z, fun z => absurd rfl z⟩⟩
set_option maxHeartbeats 16000000 in
set_option maxRecDepth 100000 in
theorem law_start {G : GX} {cy : Nat → ClassId} (F : Fx G cL_law wsL_law RL cy 4 room_1) {sb L : Nat} {xs : Nat → Int32} (hL : L ≤ 2048) (hX : SxG G sb L xs) (KE : ∀ lv sg, Go G 129 18252 751 lv [] sg) : Go G 0 0 0 [(0, .ref sb)] [] [] := by
  refine g_new F (C := RX8) (T := TX8) (N := 11) (ci := 8) (fs := f0_X8) inlX8 tyX8 tyX8_ok dL_law_0 rfl ne_L_8.1 ne_L_8.2.1 ne_L_8.2.2.1 (by decide) (by decide) (fun q8 => ?_)
  refine g_dup F dL_law_3 rfl ?_
  refine g_callI F (st := [.ref q8]) [] (ok_X8_init (gl G) (gD G) cy q8) dL_law_4 gL_law_X8_init rfl rfl ne_L_8.2.2.1 ne_L_8.2.2.2.1 ne_L_8.2.2.2.2 rfl cd_X8_init (by decide) rfl (Nat.le_of_ble_eq_true rfl) [0] (by decide) rfl (fun cs hZ => ?_)
  obtain ⟨ao, Nn, Bb, pool, Dd, i0, i1, rfl, rfl, hN⟩ := hZ
  refine ⟨rfl, ?_⟩
  refine g_astore_n F (lv' := [(1, .ref (ao 0)), (0, .ref sb)]) dL_law_7 rfl (by decide) rfl ?_
  refine g_new F (C := RX9) (T := TX9) (N := 36) (ci := 9) (fs := f0_X9) inlX9 tyX9 tyX9_ok dL_law_8 rfl ne_L_9.1 ne_L_9.2.1 ne_L_9.2.2.1 (by decide) (by decide) (fun q9 => ?_)
  refine g_dup F dL_law_11 rfl ?_
  refine g_callI F (st := [.ref q9]) [] (ok_X9_init (gl G) (gD G) cy q9) dL_law_12 gL_law_X9_init rfl rfl ne_L_9.2.2.1 ne_L_9.2.2.2.1 ne_L_9.2.2.2.2 rfl cd_X9_init (by decide) rfl (Nat.le_of_ble_eq_true rfl) [1] (by decide) rfl (fun cs hZ => ?_)
  obtain ⟨am, M, Dr, s0, ik, rfl, rfl, hM⟩ := hZ
  refine ⟨rfl, ?_⟩
  refine g_astore_n F (lv' := [(2, .ref (am 0)), (1, .ref (ao 0)), (0, .ref sb)]) dL_law_15 rfl (by decide) rfl ?_
  refine g_iconst F (v := nI 0) dL_law_16 (by decide) ?_
  refine g_istore_n F (lv' := [(3, .int (nI 0)), (2, .ref (am 0)), (1, .ref (ao 0)), (0, .ref sb)]) dL_law_17 rfl (by decide) rfl ?_
  refine Go.sub (lv' := [(0, .ref sb), (1, .ref (ao 0)), (2, .ref (am 0)), (3, .int (nI 0))]) [3, 2, 1, 0] rfl ?_
  refine Go.world (sg' := lawW cy ao am Nn Bb (z0, z0) (0, z0, z0) (0, ix0, pool) (0, z0, z0) (z0, z0) (0, zJ) Dd z0 z0 i0 i1 M z0 Dr s0 z0 z0 z0 ik z0 z0 z0 z0 z0 z0 z0 zJ z0 z0 z0 z0) ?_ ?_
  · rfl
  exact law_go F hL hX (by decide) KE 2052 0 rfl Nn Bb (z0, z0) (0, z0, z0) (0, ix0, pool) (0, z0, z0) (z0, z0) (0, zJ) Dd z0 z0 i0 i1 M z0 Dr s0 z0 z0 z0 ik z0 z0 z0 z0 z0 z0 z0 zJ z0 z0 z0 z0 (rel_0 hN hM)
