/-! the reference, a part -/
set_option maxHeartbeats 4000000 in
set_option maxRecDepth 100000 in
theorem c_X6_stakeAt (l : Launch) (hlf : l.stackTraces = false) (g : GC) (M : HM) (q : Nat) (md : FL) (v : Int32) (hW : MdAt g M q md) (hI : mOk (md 0)) : KM g l yX6_stakeAt cX6_stakeAt 2 (some .int) 3 0 0 [.ref q, .int v] M (.inl (some (.int (if inB v 0 (md 0 2 - 1) then mS (md 0) v else 0)), (putD g M q (up2 md 7 19 (if inB v 0 (md 0 2 - 1) then 0 else 1))))) := by
  refine k_meth hlf (by decide) (Nat.le_of_ble_eq_true rfl) fun p e s m below meth c ls hc hr hnx hM hS hl => ?_
  have hc : Cx g p l s m [.ref q, .int v].toArray meth c cX6_stakeAt 2 RX6 := hc
  have hx := hc.1
  have hb := hc.2.1
  have hl : lv_has ls 2 [(0, .ref q), (1, .int v)] := hl
  refine lv_aload_n hx hb dX6_stakeAt_0 rfl (lv_at hl 0 rfl) ?_
  refine lv_iconst (v := 0) hx hb dX6_stakeAt_1 (by decide) ?_
  refine pt_X6_36 hc dX6_stakeAt_2 hM hS hW.o rfl rfl (Nat.le_of_ble_eq_true rfl) (fun H locs hM hS => ?_)
  have hM := hR.eq hM (putD_sc hW 19 (v := 0) md_s19)
  have hW := MdAt.put (g := g) (M := M) (m := q) (md := (up2 md 7 19 0))
  refine lv_aload_n hx hb dX6_stakeAt_5 rfl (lv_at hl 0 rfl) ?_
  refine lv_iload_n hx hb dX6_stakeAt_6 rfl (lv_at hl 1 rfl) ?_
  refine k_V1 hc [.int v] cw_X6_103 rfl dX6_stakeAt_7 (c_X6_isStake l hlf g _ q (up2 md 7 19 0) v hW) hW.o hM hS hl.1 rfl rfl ⟨Nat.le_of_ble_eq_true rfl, Nat.le_of_ble_eq_true rfl⟩ ⟨Nat.le_of_ble_eq_true rfl, Nat.le_of_ble_eq_true rfl⟩ (Nat.le_of_ble_eq_true rfl) (fun H locs hM hS => ?_)
  refine lv_if_eq (tgt := 25) hx hb dX6_stakeAt_10 (by decide) (fun c_10 => ?_) (fun c_10 => ?_)
  · skip
    have c_10 := bI_eq.mp c_10
    refine lv_aload_n hx hb dX6_stakeAt_25 rfl (lv_at hl 0 rfl) ?_
    refine lv_iconst (v := 1) hx hb dX6_stakeAt_26 (by decide) ?_
    refine k_V1 hc [.int 1] cw_X6_61 rfl dX6_stakeAt_27 (c_X6_raises l hlf g _ q (up2 md 7 19 0) 1 hW) hW.o hM hS hl.1 rfl rfl ⟨Nat.le_of_ble_eq_true rfl, Nat.le_of_ble_eq_true rfl⟩ ⟨Nat.le_of_ble_eq_true rfl, Nat.le_of_ble_eq_true rfl⟩ (Nat.le_of_ble_eq_true rfl) (fun H locs hM hS => ?_)
    have hM := hR.eq hM putD_putD
    have hW := MdAt.put (g := g) (M := M) (m := q) (md := (up2 (up2 md 7 19 0) 7 19 1))
    exact k_iret hc hr dX6_stakeAt_30 hM hS (Nat.le_of_ble_eq_true rfl) (Nat.le_of_ble_eq_true rfl) (by show (Sum.inl (some (.int (if inB v 0 ((up2 md 7 19 0) 0 2 - 1) then mS ((up2 md 7 19 0) 0) v else 0)), putD g M q (up2 md 7 19 (if inB v 0 ((up2 md 7 19 0) 0 2 - 1) then 0 else 1))) : Rs) = _; first | (simp only [, eq_false c_10, eq_self, bM_l, bM_r, rsM_l, rsM_r, seV_l, seV_r, snE_l, snE_r, up1_at, up1_up1, up2_up2, not_false_eq_true, not_true_eq_false, and_true, true_and, and_false, false_and, and_self, ↓reduceIte, or_true, true_or, or_self, or_false, false_or]; done) | (simp only [, eq_false c_10, eq_self, bM_l, bM_r, rsM_l, rsM_r, seV_l, seV_r, snE_l, snE_r, up1_at, up1_up1, up2_up2, not_false_eq_true, not_true_eq_false, and_true, true_and, and_false, false_and, and_self, ↓reduceIte, or_true, true_or, or_self, or_false, false_or]; rfl))
  · skip
    have c_10 := bI_ne.mp c_10
    have ok_10 := isS_ok (f := md 0) hI c_10
    refine lv_aload_n hx hb dX6_stakeAt_13 rfl (lv_at hl 0 rfl) ?_
    refine gt_X6_9 hc dX6_stakeAt_14 hM hW.o rfl ?_
    refine lv_bipush (v := 9) hx hb dX6_stakeAt_17 (by decide) ?_
    refine lv_iload_n hx hb dX6_stakeAt_19 rfl (lv_at hl 1 rfl) ?_
    refine lv_iadd hx hb dX6_stakeAt_20 ?_
    refine k_iald hc hM (hW.ar 0 (by decide) (by decide) rfl rfl) (inS (by assumption)) dX6_stakeAt_21 ?_
    refine lv_goto (tgt := 30) hx hb dX6_stakeAt_22 (by decide) ?_
    exact k_iret hc hr dX6_stakeAt_30 hM hS (Nat.le_of_ble_eq_true rfl) (Nat.le_of_ble_eq_true rfl) (by show (Sum.inl (some (.int (if inB v 0 ((up2 md 7 19 0) 0 2 - 1) then mS ((up2 md 7 19 0) 0) v else 0)), putD g M q (up2 md 7 19 (if inB v 0 ((up2 md 7 19 0) 0 2 - 1) then 0 else 1))) : Rs) = _; first | (simp only [, eq_true c_10, eq_self, bM_l, bM_r, rsM_l, rsM_r, seV_l, seV_r, snE_l, snE_r, up1_at, up1_up1, up2_up2, not_false_eq_true, not_true_eq_false, and_true, true_and, and_false, false_and, and_self, ↓reduceIte, or_true, true_or, or_self, or_false, false_or]; done) | (simp only [, eq_true c_10, eq_self, bM_l, bM_r, rsM_l, rsM_r, seV_l, seV_r, snE_l, snE_r, up1_at, up1_up1, up2_up2, not_false_eq_true, not_true_eq_false, and_true, true_and, and_false, false_and, and_self, ↓reduceIte, or_true, true_or, or_self, or_false, false_or]; rfl))
set_option maxHeartbeats 4000000 in
set_option maxRecDepth 100000 in
theorem c_X6_postOf (l : Launch) (hlf : l.stackTraces = false) (g : GC) (M : HM) (q : Nat) (md : FL) (v : Int32) (w : Int32) (hW : MdAt g M q md) (hI : mOk (md 0)) : KM g l yX6_postOf cX6_postOf 3 (some .int) 3 0 0 [.ref q, .int v, .int w] M (.inl (some (.int (if inB v 0 (md 0 3 - 1) then (if w = 0 then mP (md 0) v 0 else mP (md 0) v 1) else 0)), (putD g M q (up2 md 7 19 (if inB v 0 (md 0 3 - 1) then 0 else 1))))) := by
  refine k_meth hlf (by decide) (Nat.le_of_ble_eq_true rfl) fun p e s m below meth c ls hc hr hnx hM hS hl => ?_
  have hc : Cx g p l s m [.ref q, .int v, .int w].toArray meth c cX6_postOf 3 RX6 := hc
  have hx := hc.1
  have hb := hc.2.1
  have hl : lv_has ls 3 [(0, .ref q), (1, .int v), (2, .int w)] := hl
  refine lv_aload_n hx hb dX6_postOf_0 rfl (lv_at hl 0 rfl) ?_
  refine lv_iconst (v := 0) hx hb dX6_postOf_1 (by decide) ?_
  refine pt_X6_36 hc dX6_postOf_2 hM hS hW.o rfl rfl (Nat.le_of_ble_eq_true rfl) (fun H locs hM hS => ?_)
  have hM := hR.eq hM (putD_sc hW 19 (v := 0) md_s19)
  have hW := MdAt.put (g := g) (M := M) (m := q) (md := (up2 md 7 19 0))
  refine lv_aload_n hx hb dX6_postOf_5 rfl (lv_at hl 0 rfl) ?_
  refine lv_iload_n hx hb dX6_postOf_6 rfl (lv_at hl 1 rfl) ?_
  refine k_V1 hc [.int v] cw_X6_107 rfl dX6_postOf_7 (c_X6_isPost l hlf g _ q (up2 md 7 19 0) v hW) hW.o hM hS hl.1 rfl rfl ⟨Nat.le_of_ble_eq_true rfl, Nat.le_of_ble_eq_true rfl⟩ ⟨Nat.le_of_ble_eq_true rfl, Nat.le_of_ble_eq_true rfl⟩ (Nat.le_of_ble_eq_true rfl) (fun H locs hM hS => ?_)
  refine lv_if_eq (tgt := 30) hx hb dX6_postOf_10 (by decide) (fun c_10 => ?_) (fun c_10 => ?_)
  · skip
    have c_10 := bI_eq.mp c_10
    refine lv_aload_n hx hb dX6_postOf_30 rfl (lv_at hl 0 rfl) ?_
    refine lv_iconst (v := 1) hx hb dX6_postOf_31 (by decide) ?_
    refine k_V1 hc [.int 1] cw_X6_61 rfl dX6_postOf_32 (c_X6_raises l hlf g _ q (up2 md 7 19 0) 1 hW) hW.o hM hS hl.1 rfl rfl ⟨Nat.le_of_ble_eq_true rfl, Nat.le_of_ble_eq_true rfl⟩ ⟨Nat.le_of_ble_eq_true rfl, Nat.le_of_ble_eq_true rfl⟩ (Nat.le_of_ble_eq_true rfl) (fun H locs hM hS => ?_)
    have hM := hR.eq hM putD_putD
    have hW := MdAt.put (g := g) (M := M) (m := q) (md := (up2 (up2 md 7 19 0) 7 19 1))
    exact k_iret hc hr dX6_postOf_35 hM hS (Nat.le_of_ble_eq_true rfl) (Nat.le_of_ble_eq_true rfl) (by show (Sum.inl (some (.int (if inB v 0 ((up2 md 7 19 0) 0 3 - 1) then (if w = 0 then mP ((up2 md 7 19 0) 0) v 0 else mP ((up2 md 7 19 0) 0) v 1) else 0)), putD g M q (up2 md 7 19 (if inB v 0 ((up2 md 7 19 0) 0 3 - 1) then 0 else 1))) : Rs) = _; first | (simp only [, eq_false c_10, eq_self, bM_l, bM_r, rsM_l, rsM_r, seV_l, seV_r, snE_l, snE_r, up1_at, up1_up1, up2_up2, not_false_eq_true, not_true_eq_false, and_true, true_and, and_false, false_and, and_self, ↓reduceIte, or_true, true_or, or_self, or_false, false_or]; done) | (simp only [, eq_false c_10, eq_self, bM_l, bM_r, rsM_l, rsM_r, seV_l, seV_r, snE_l, snE_r, up1_at, up1_up1, up2_up2, not_false_eq_true, not_true_eq_false, and_true, true_and, and_false, false_and, and_self, ↓reduceIte, or_true, true_or, or_self, or_false, false_or]; rfl))
  · skip
    have c_10 := bI_ne.mp c_10
    have ok_10 := isP_ok (f := md 0) hI c_10
    refine lv_aload_n hx hb dX6_postOf_13 rfl (lv_at hl 0 rfl) ?_
    refine lv_iload_n hx hb dX6_postOf_14 rfl (lv_at hl 1 rfl) ?_
    refine lv_iload_n hx hb dX6_postOf_15 rfl (lv_at hl 2 rfl) ?_
    refine lv_if_eq (tgt := 23) hx hb dX6_postOf_16 (by decide) (fun c_16 => ?_) (fun c_16 => ?_)
    · skip
      refine lv_iconst (v := 0) hx hb dX6_postOf_23 (by decide) ?_
      refine k_V1 hc [.int v, .int 0] cw_X6_91 rfl dX6_postOf_24 (c_X6_ofPost l hlf g _ q (up2 md 7 19 0) v 0 hW (by first | assumption | decide) (by first | assumption | decide)) hW.o hM hS hl.1 rfl rfl ⟨Nat.le_of_ble_eq_true rfl, Nat.le_of_ble_eq_true rfl⟩ ⟨Nat.le_of_ble_eq_true rfl, Nat.le_of_ble_eq_true rfl⟩ (Nat.le_of_ble_eq_true rfl) (fun H locs hM hS => ?_)
      refine lv_goto (tgt := 35) hx hb dX6_postOf_27 (by decide) ?_
      exact k_iret hc hr dX6_postOf_35 hM hS (Nat.le_of_ble_eq_true rfl) (Nat.le_of_ble_eq_true rfl) (by show (Sum.inl (some (.int (if inB v 0 ((up2 md 7 19 0) 0 3 - 1) then (if w = 0 then mP ((up2 md 7 19 0) 0) v 0 else mP ((up2 md 7 19 0) 0) v 1) else 0)), putD g M q (up2 md 7 19 (if inB v 0 ((up2 md 7 19 0) 0 3 - 1) then 0 else 1))) : Rs) = _; first | (simp only [, eq_true c_10, eq_true c_16, eq_self, bM_l, bM_r, rsM_l, rsM_r, seV_l, seV_r, snE_l, snE_r, up1_at, up1_up1, up2_up2, not_false_eq_true, not_true_eq_false, and_true, true_and, and_false, false_and, and_self, ↓reduceIte, or_true, true_or, or_self, or_false, false_or]; done) | (simp only [, eq_true c_10, eq_true c_16, eq_self, bM_l, bM_r, rsM_l, rsM_r, seV_l, seV_r, snE_l, snE_r, up1_at, up1_up1, up2_up2, not_false_eq_true, not_true_eq_false, and_true, true_and, and_false, false_and, and_self, ↓reduceIte, or_true, true_or, or_self, or_false, false_or]; rfl))
    · skip
      refine lv_iconst (v := 1) hx hb dX6_postOf_19 (by decide) ?_
      refine lv_goto (tgt := 24) hx hb dX6_postOf_20 (by decide) ?_
      refine k_V1 hc [.int v, .int 1] cw_X6_91 rfl dX6_postOf_24 (c_X6_ofPost l hlf g _ q (up2 md 7 19 0) v 1 hW (by first | assumption | decide) (by first | assumption | decide)) hW.o hM hS hl.1 rfl rfl ⟨Nat.le_of_ble_eq_true rfl, Nat.le_of_ble_eq_true rfl⟩ ⟨Nat.le_of_ble_eq_true rfl, Nat.le_of_ble_eq_true rfl⟩ (Nat.le_of_ble_eq_true rfl) (fun H locs hM hS => ?_)
      refine lv_goto (tgt := 35) hx hb dX6_postOf_27 (by decide) ?_
      exact k_iret hc hr dX6_postOf_35 hM hS (Nat.le_of_ble_eq_true rfl) (Nat.le_of_ble_eq_true rfl) (by show (Sum.inl (some (.int (if inB v 0 ((up2 md 7 19 0) 0 3 - 1) then (if w = 0 then mP ((up2 md 7 19 0) 0) v 0 else mP ((up2 md 7 19 0) 0) v 1) else 0)), putD g M q (up2 md 7 19 (if inB v 0 ((up2 md 7 19 0) 0 3 - 1) then 0 else 1))) : Rs) = _; first | (simp only [, eq_true c_10, eq_false c_16, eq_self, bM_l, bM_r, rsM_l, rsM_r, seV_l, seV_r, snE_l, snE_r, up1_at, up1_up1, up2_up2, not_false_eq_true, not_true_eq_false, and_true, true_and, and_false, false_and, and_self, ↓reduceIte, or_true, true_or, or_self, or_false, false_or]; done) | (simp only [, eq_true c_10, eq_false c_16, eq_self, bM_l, bM_r, rsM_l, rsM_r, seV_l, seV_r, snE_l, snE_r, up1_at, up1_up1, up2_up2, not_false_eq_true, not_true_eq_false, and_true, true_and, and_false, false_and, and_self, ↓reduceIte, or_true, true_or, or_self, or_false, false_or]; rfl))
