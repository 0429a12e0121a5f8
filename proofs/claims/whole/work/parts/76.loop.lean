/-! ===== the law's loop ===== -/
theorem m31 (v : Int32) : ∃ k, k < 32 ∧ v &&& (31 : Int32) = nI k := by
  refine ⟨(v.toBitVec &&& 31#32).toNat, ?_, ?_⟩
  · have h : (v.toBitVec &&& 31#32).toNat ≤ 31 := by
      rw [BitVec.toNat_and]
      exact Nat.and_le_right
    omega
  · apply Int32.toBitVec_inj.mp
    show v.toBitVec &&& 31#32 = BitVec.ofNat 32 (v.toBitVec &&& 31#32).toNat
    rw [BitVec.ofNat_toNat, BitVec.setWidth_eq]
theorem end4 {L i : Nat} (hL : L ≤ 2048) (hi : i ≤ 4096) : nI L - (4 : Int32) < nI i ↔ L < i + 4 := by
  rw [lit 4]
  by_cases c : 4 ≤ L
  · rw [q_sub c, q_lt (by omega) (by omega)]
    omega
  · have h : ∀ L, L < 4 → (nI L - nI 4).toInt < 0 := by decide
    have h2 := h L (by omega)
    rw [Int32.lt_iff_toInt_lt, nI_toInt (by omega)]
    omega
theorem in4 {L i k : Nat} (hL : L ≤ 2048) (h : i + k < L) : vp_in (nI (i + k)) L := nI_in h (by omega)
set_option maxHeartbeats 8000000 in
set_option maxRecDepth 100000 in
theorem law_go {G : GX} {cy : Nat → ClassId} (F : Fx G cL_law wsL_law RL cy 4 room_1) {sb L : Nat} {xs : Nat → Int32} (hL : L ≤ 2048) (hX : SxG G sb L xs) {ao am : Nat → Nat} {a b : Nat} (hab : a ≤ room_1.cells ∧ b ≤ room_1.slots) (KE : ∀ lv sg, Go G a b 751 lv [] sg) : ∀ (n i : Nat), i + n = 2052 → ∀ (Nn : NetS) (Bb : NetS) (Tt : TxtS) (Ll : LstS) (Pp : PstS) (Rr : LapS) (Ss : SgtS) (Ww : TalS) (Dd : NetS) (Cc : CalS) (kp : Nat → Int32) (i0 : NetS) (i1 : NetS) (M : ModS) (m_text : Nat → Int32) (m_draft : Nat → Int32) (m_s : Nat → Int32) (m_w : Nat → Int32) (m_was : Nat → Int32) (m_kept : Nat → Int32) (m_isKept : Nat → Int32) (m_undos : Nat → Int32) (m_listFrom : Nat → Int32) (m_listTo : Nat → Int32) (m_ring : Nat → Int32) (m_seenItem : Nat → Int32) (m_seenMoved : Nat → Int32) (m_far : Nat → Int32) (m_ways : Nat → Int64) (m_day : Nat → Int32) (m_order : Nat → Int32) (m_tried : Nat → Int32) (m_movedIf : Nat → Int32), Rel Nn Tt Ll Pp Rr Ss Ww Dd i0 i1 kp M m_text m_s m_undos m_listFrom m_listTo m_ring m_seenItem m_seenMoved m_kept m_isKept → Go G a b 18 [(0, .ref sb), (1, .ref (ao 0)), (2, .ref (am 0)), (3, .int (nI i))] [] (lawW cy ao am Nn Bb Tt Ll Pp Rr Ss Ww Dd Cc kp i0 i1 M m_text m_draft m_s m_w m_was m_kept m_isKept m_undos m_listFrom m_listTo m_ring m_seenItem m_seenMoved m_far m_ways m_day m_order m_tried m_movedIf) := by
  intro n
  induction n using Nat.strongRecOn with
  | _ n ih =>
  intro i hi Nn Bb Tt Ll Pp Rr Ss Ww Dd Cc kp i0 i1 M m_text m_draft m_s m_w m_was m_kept m_isKept m_undos m_listFrom m_listTo m_ring m_seenItem m_seenMoved m_far m_ways m_day m_order m_tried m_movedIf hR
  refine g_iload_n F dL_law_18 rfl 3 rfl ?_
  refine g_aload_n F dL_law_19 rfl 0 rfl ?_
  refine g_slen F hX dL_law_20 ?_
  refine g_iconst F (v := (4 : Int32)) dL_law_21 (by decide) ?_
  refine g_isub F dL_law_22 ?_
  by_cases c : L < i + 4
  · exact g_icmp_gt F (X := true) (Y := false) (o := true) 751 (if_pos ((end4 hL (by omega)).mpr c)) dL_law_23 rfl (fun _ => KE _ _) (fun h => by cases h)
  · refine g_icmp_gt F (X := true) (Y := false) (o := false) 751 (if_neg (fun q => c ((end4 hL (by omega)).mp q))) dL_law_23 rfl (fun h => by cases h) (fun _ => ?_)
    refine g_aload_n F dL_law_26 rfl 0 rfl ?_
    refine g_iload_n F dL_law_27 rfl 3 rfl ?_
    refine g_sld F hX (in4 (k := 0) hL (by omega)) dL_law_28 ?_
    refine g_bipush F (v := (31 : Int32)) dL_law_29 (by decide) ?_
    refine g_iand F dL_law_31 ?_
    obtain ⟨k, hk, ek⟩ := m31 (xs (nI i).toNatClampNeg)
    rw [ek]
    have h1 : vp_in (nI i + (1 : Int32)) L := by rw [lit 1, nI_add]; exact in4 hL (by omega)
    have h2 : vp_in (nI i + (2 : Int32)) L := by rw [lit 2, nI_add]; exact in4 hL (by omega)
    have h3 : vp_in (nI i + (3 : Int32)) L := by rw [lit 3, nI_add]; exact in4 hL (by omega)
    have K : LawK G cy ao am a b i sb := by
      intro Nn Bb Tt Ll Pp Rr Ss Ww Dd Cc kp i0 i1 M m_text m_draft m_s m_w m_was m_kept m_isKept m_undos m_listFrom m_listTo m_ring m_seenItem m_seenMoved m_far m_ways m_day m_order m_tried m_movedIf hR
      refine g_iinc F (v := nI (i + 4)) (lv' := [(3, .int (nI (i + 4))), (0, .ref sb), (1, .ref (ao 0)), (2, .ref (am 0))]) dL_law_745 3 rfl (by rw [show Int32.ofInt 4 = nI 4 from rfl, nI_add]) (by decide) rfl ?_
      refine g_goto F 18 dL_law_748 rfl ?_
      refine Go.sub (lv' := [(0, .ref sb), (1, .ref (ao 0)), (2, .ref (am 0)), (3, .int (nI (i + 4)))]) [1, 2, 3, 0] rfl ?_
      exact ih (n - 4) (by omega) (i + 4) (by omega) Nn Bb Tt Ll Pp Rr Ss Ww Dd Cc kp i0 i1 M m_text m_draft m_s m_w m_was m_kept m_isKept m_undos m_listFrom m_listTo m_ring m_seenItem m_seenMoved m_far m_ways m_day m_order m_tried m_movedIf hR
    match k, hk with
    | 0, _ => exact g_tin F 148 dL_law_32 (by decide) rfl rfl (law_type F hX hab hR h1 h2 h3 K)
    | 1, _ => exact g_tin F 171 dL_law_32 (by decide) rfl rfl (law_clear F hX hab hR h1 h2 h3 K)
    | 2, _ => exact g_tin F 184 dL_law_32 (by decide) rfl rfl (law_store F hX hab hR h1 h2 h3 K)
    | 3, _ => exact g_tin F 197 dL_law_32 (by decide) rfl rfl (law_item F hX hab hR h1 h2 h3 K)
    | 4, _ => exact g_tin F 230 dL_law_32 (by decide) rfl rfl (law_at F hX hab hR h1 h2 h3 K)
    | 5, _ => exact g_tin F 253 dL_law_32 (by decide) rfl rfl (law_now F hX hab hR h1 h2 h3 K)
    | 6, _ => exact g_tin F 276 dL_law_32 (by decide) rfl rfl (law_puts F hX hab hR h1 h2 h3 K)
    | 7, _ => exact g_tin F 309 dL_law_32 (by decide) rfl rfl (law_lists F hX hab hR h1 h2 h3 K)
    | 8, _ => exact g_tin F 342 dL_law_32 (by decide) rfl rfl (law_adds F hX hab hR h1 h2 h3 K)
    | 9, _ => exact g_tin F 355 dL_law_32 (by decide) rfl rfl (law_cuts F hX hab hR h1 h2 h3 K)
    | 10, _ => exact g_tin F 388 dL_law_32 (by decide) rfl rfl (law_sorts F hX hab hR h1 h2 h3 K)
    | 11, _ => exact g_tin F 401 dL_law_32 (by decide) rfl rfl (law_undo F hX hab hR h1 h2 h3 K)
    | 12, _ => exact g_tin F 414 dL_law_32 (by decide) rfl rfl (law_lap F hX hab hR h1 h2 h3 K)
    | 13, _ => exact g_tin F 437 dL_law_32 (by decide) rfl rfl (law_arc F hX hab hR h1 h2 h3 K)
    | 14, _ => exact g_tin F 480 dL_law_32 (by decide) rfl rfl (law_orders F hX hab hR h1 h2 h3 K)
    | 15, _ => exact g_tin F 494 dL_law_32 (by decide) rfl rfl (law_number F hX hab hR h1 h2 h3 K)
    | 16, _ => exact g_tin F 508 dL_law_32 (by decide) rfl rfl (law_kth F hX hab hR h1 h2 h3 K)
    | 17, _ => exact g_tin F 571 dL_law_32 (by decide) rfl rfl (law_days F hX hab hR h1 h2 h3 K)
    | 18, _ => exact g_tin F 594 dL_law_32 (by decide) rfl rfl (law_sees F hX hab hR h1 h2 h3 K)
    | 19, _ => exact g_tin F 627 dL_law_32 (by decide) rfl rfl (law_forget F hX hab hR h1 h2 h3 K)
    | 20, _ => exact g_tin F 640 dL_law_32 (by decide) rfl rfl (law_unseen F hX hab hR h1 h2 h3 K)
    | 21, _ => exact g_tin F 663 dL_law_32 (by decide) rfl rfl (law_look F hX hab hR h1 h2 h3 K)
    | 22, _ => exact g_tin F 676 dL_law_32 (by decide) rfl rfl (law_keep F hX hab hR h1 h2 h3 K)
    | 23, _ => exact g_tin F 699 dL_law_32 (by decide) rfl rfl (law_back F hX hab hR h1 h2 h3 K)
    | 24, _ => exact g_tin F 722 dL_law_32 (by decide) rfl rfl (law_count F hX hab hR h1 h2 h3 K)
    | 25, _ => exact g_tout F 745 dL_law_32 (by decide) rfl (K Nn Bb Tt Ll Pp Rr Ss Ww Dd Cc kp i0 i1 M m_text m_draft m_s m_w m_was m_kept m_isKept m_undos m_listFrom m_listTo m_ring m_seenItem m_seenMoved m_far m_ways m_day m_order m_tried m_movedIf hR)
    | 26, _ => exact g_tout F 745 dL_law_32 (by decide) rfl (K Nn Bb Tt Ll Pp Rr Ss Ww Dd Cc kp i0 i1 M m_text m_draft m_s m_w m_was m_kept m_isKept m_undos m_listFrom m_listTo m_ring m_seenItem m_seenMoved m_far m_ways m_day m_order m_tried m_movedIf hR)
    | 27, _ => exact g_tout F 745 dL_law_32 (by decide) rfl (K Nn Bb Tt Ll Pp Rr Ss Ww Dd Cc kp i0 i1 M m_text m_draft m_s m_w m_was m_kept m_isKept m_undos m_listFrom m_listTo m_ring m_seenItem m_seenMoved m_far m_ways m_day m_order m_tried m_movedIf hR)
    | 28, _ => exact g_tout F 745 dL_law_32 (by decide) rfl (K Nn Bb Tt Ll Pp Rr Ss Ww Dd Cc kp i0 i1 M m_text m_draft m_s m_w m_was m_kept m_isKept m_undos m_listFrom m_listTo m_ring m_seenItem m_seenMoved m_far m_ways m_day m_order m_tried m_movedIf hR)
    | 29, _ => exact g_tout F 745 dL_law_32 (by decide) rfl (K Nn Bb Tt Ll Pp Rr Ss Ww Dd Cc kp i0 i1 M m_text m_draft m_s m_w m_was m_kept m_isKept m_undos m_listFrom m_listTo m_ring m_seenItem m_seenMoved m_far m_ways m_day m_order m_tried m_movedIf hR)
    | 30, _ => exact g_tout F 745 dL_law_32 (by decide) rfl (K Nn Bb Tt Ll Pp Rr Ss Ww Dd Cc kp i0 i1 M m_text m_draft m_s m_w m_was m_kept m_isKept m_undos m_listFrom m_listTo m_ring m_seenItem m_seenMoved m_far m_ways m_day m_order m_tried m_movedIf hR)
    | 31, _ => exact g_tout F 745 dL_law_32 (by decide) rfl (K Nn Bb Tt Ll Pp Rr Ss Ww Dd Cc kp i0 i1 M m_text m_draft m_s m_w m_was m_kept m_isKept m_undos m_listFrom m_listTo m_ring m_seenItem m_seenMoved m_far m_ways m_day m_order m_tried m_movedIf hR)
    | k + 32, hk => omega
