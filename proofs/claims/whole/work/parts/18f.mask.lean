/-! the reference, a part -/
set_option maxHeartbeats 4000000 in
set_option maxRecDepth 100000 in
theorem c_X6_stakeAt (l : Launch) (hlf : l.stackTraces = false) (g : GC) (M : HM) (q : Nat) (md : FL) (v : Int32) (hW : MdAt g M q md) (hI : mOk (md 0)) : KM g l yX6_stakeAt cX6_stakeAt 2 (some .int) 3 0 0 [.ref q, .int v] M (.inl (some (.int (if inB v 0 (md 0 2 - 1) then mS (md 0) v else 0)), (putD g M q (up2 md 7 19 (if inB v 0 (md 0 2 - 1) then 0 else 1))))) := by
  refine k_meth hlf (by decide) (Nat.le_of_ble_eq_true rfl) fun p e s m below meth c ls hc hr hnx hM hS hl => ?_
  have hc : Cx g p l s m [.ref q, .int v].toArray meth c cX6_stakeAt 2 RX6 := hc
  have hx := hc.1
  have hb := hc.2.1
  have hl : lv_has ls 2 [(0, .ref q), (1, .int v)] := hl
  refine lv_aload_n hx hb dX6_stakeAt_0 rfl (lv_at hl 0 rfl) ?_
  refine lv_iconst (v := 0) hx hb dX6_stakeAt_1 (by decide) ?_
  refine pt_X6_36 hc dX6_stakeAt_2 hM hS hW.o rfl rfl (Nat.le_of_ble_eq_true rfl) (fun H locs hM hS => ?_)
  have hM := hR.eq hM (putD_sc hW 19 (v := 0) md_s19)
  have hW := MdAt.put (g := g) (M := M) (m := q) (md := (up2 md 7 19 0))
  refine lv_aload_n hx hb dX6_stakeAt_5 rfl (lv_at hl 0 rfl) ?_
  refine lv_iload_n hx hb dX6_stakeAt_6 rfl (lv_at hl 1 rfl) ?_
  refine k_V1 (v := .int (bI (inB v 0 ((md 0) 2 - 1)))) hc [.int v] cw_X6_103 rfl dX6_stakeAt_7 (c_X6_isStake l hlf g _ q (up2 md 7 19 0) v hW) hW.o hM hS hl.1 rfl rfl ⟨Nat.le_of_ble_eq_true rfl, Nat.le_of_ble_eq_true rfl⟩ ⟨Nat.le_of_ble_eq_true rfl, Nat.le_of_ble_eq_true rfl⟩ (Nat.le_of_ble_eq_true rfl) (fun H locs hM hS => ?_)
  refine lv_if_eq (tgt := 25) hx hb dX6_stakeAt_10 (by decide) (fun c_10 => ?_) (fun c_10 => ?_)
  · skip
    have c_10 := bI_eq.mp c_10
    refine lv_aload_n hx hb dX6_stakeAt_25 rfl (lv_at hl 0 rfl) ?_
    refine lv_iconst (v := 1) hx hb dX6_stakeAt_26 (by decide) ?_
    refine k_V1 (v := .int 0) hc [.int 1] cw_X6_61 rfl dX6_stakeAt_27 (c_X6_raises l hlf g _ q (up2 md 7 19 0) 1 hW) hW.o hM hS hl.1 rfl rfl ⟨Nat.le_of_ble_eq_true rfl, Nat.le_of_ble_eq_true rfl⟩ ⟨Nat.le_of_ble_eq_true rfl, Nat.le_of_ble_eq_true rfl⟩ (Nat.le_of_ble_eq_true rfl) (fun H locs hM hS => ?_)
    have hM := hR.eq hM putD_putD
    have hW := MdAt.put (g := g) (M := M) (m := q) (md := (up2 (up2 md 7 19 0) 7 19 1))
    exact k_iret hc hr dX6_stakeAt_30 hM hS (Nat.le_of_ble_eq_true rfl) (Nat.le_of_ble_eq_true rfl) (by first | (simp only [eq_self, eq_false c_10, eq_self, bM_l, bM_r, rsM_l, rsM_r, seV_l, seV_r, snE_l, snE_r, up1_at, up1_up1, up2_up2, not_false_eq_true, not_true_eq_false, and_true, true_and, and_false, false_and, and_self, ↓reduceIte, or_true, true_or, or_self, or_false, false_or]; done) | (simp only [eq_self, eq_false c_10, eq_self, bM_l, bM_r, rsM_l, rsM_r, seV_l, seV_r, snE_l, snE_r, up1_at, up1_up1, up2_up2, not_false_eq_true, not_true_eq_false, and_true, true_and, and_false, false_and, and_self, ↓reduceIte, or_true, true_or, or_self, or_false, false_or]; rfl))
  · skip
    have c_10 := bI_ne.mp c_10
    have ok_10 := isS_ok (f := md 0) hI c_10
    refine lv_aload_n hx hb dX6_stakeAt_13 rfl (lv_at hl 0 rfl) ?_
    refine gt_X6_9 hc dX6_stakeAt_14 hM hW.o rfl ?_
    refine lv_bipush (v := 9) hx hb dX6_stakeAt_17 (by decide) ?_
    refine lv_iload_n hx hb dX6_stakeAt_19 rfl (lv_at hl 1 rfl) ?_
    refine lv_iadd hx hb dX6_stakeAt_20 ?_
    refine k_iald hc hM (show (putD g M q (up2 md 7 19 0)) (q + 1) = some (.inl (gI g, 81, .inl (md 0))) from (hW.ar 0 (by decide) (by decide) rfl rfl)) (inS (by assumption)) dX6_stakeAt_21 ?_
    refine lv_goto (tgt := 30) hx hb dX6_stakeAt_22 (by decide) ?_
    exact k_iret hc hr dX6_stakeAt_30 hM hS (Nat.le_of_ble_eq_true rfl) (Nat.le_of_ble_eq_true rfl) (by first | (simp only [eq_self, eq_true c_10, eq_self, bM_l, bM_r, rsM_l, rsM_r, seV_l, seV_r, snE_l, snE_r, up1_at, up1_up1, up2_up2, not_false_eq_true, not_true_eq_false, and_true, true_and, and_false, false_and, and_self, ↓reduceIte, or_true, true_or, or_self, or_false, false_or]; done) | (simp only [eq_self, eq_true c_10, eq_self, bM_l, bM_r, rsM_l, rsM_r, seV_l, seV_r, snE_l, snE_r, up1_at, up1_up1, up2_up2, not_false_eq_true, not_true_eq_false, and_true, true_and, and_false, false_and, and_self, ↓reduceIte, or_true, true_or, or_self, or_false, false_or]; rfl))
set_option maxHeartbeats 4000000 in
set_option maxRecDepth 100000 in
theorem c_X6_postOf (l : Launch) (hlf : l.stackTraces = false) (g : GC) (M : HM) (q : Nat) (md : FL) (v : Int32) (w : Int32) (hW : MdAt g M q md) (hI : mOk (md 0)) : KM g l yX6_postOf cX6_postOf 3 (some .int) 3 0 0 [.ref q, .int v, .int w] M (.inl (some (.int (if inB v 0 (md 0 3 - 1) then (if w = 0 then mP (md 0) v 0 else mP (md 0) v 1) else 0)), (putD g M q (up2 md 7 19 (if inB v 0 (md 0 3 - 1) then 0 else 1))))) := by
  refine k_meth hlf (by decide) (Nat.le_of_ble_eq_true rfl) fun p e s m below meth c ls hc hr hnx hM hS hl => ?_
  have hc : Cx g p l s m [.ref q, .int v, .int w].toArray meth c cX6_postOf 3 RX6 := hc
  have hx := hc.1
  have hb := hc.2.1
  have hl : lv_has ls 3 [(0, .ref q), (1, .int v), (2, .int w)] := hl
  refine lv_aload_n hx hb dX6_postOf_0 rfl (lv_at hl 0 rfl) ?_
  refine lv_iconst (v := 0) hx hb dX6_postOf_1 (by decide) ?_
  refine pt_X6_36 hc dX6_postOf_2 hM hS hW.o rfl rfl (Nat.le_of_ble_eq_true rfl) (fun H locs hM hS => ?_)
  have hM := hR.eq hM (putD_sc hW 19 (v := 0) md_s19)
  have hW := MdAt.put (g := g) (M := M) (m := q) (md := (up2 md 7 19 0))
  refine lv_aload_n hx hb dX6_postOf_5 rfl (lv_at hl 0 rfl) ?_
  refine lv_iload_n hx hb dX6_postOf_6 rfl (lv_at hl 1 rfl) ?_
  refine k_V1 (v := .int (bI (inB v 0 ((md 0) 3 - 1)))) hc [.int v] cw_X6_107 rfl dX6_postOf_7 (c_X6_isPost l hlf g _ q (up2 md 7 19 0) v hW) hW.o hM hS hl.1 rfl rfl ⟨Nat.le_of_ble_eq_true rfl, Nat.le_of_ble_eq_true rfl⟩ ⟨Nat.le_of_ble_eq_true rfl, Nat.le_of_ble_eq_true rfl⟩ (Nat.le_of_ble_eq_true rfl) (fun H locs hM hS => ?_)
  refine lv_if_eq (tgt := 30) hx hb dX6_postOf_10 (by decide) (fun c_10 => ?_) (fun c_10 => ?_)
  · skip
    have c_10 := bI_eq.mp c_10
    refine lv_aload_n hx hb dX6_postOf_30 rfl (lv_at hl 0 rfl) ?_
    refine lv_iconst (v := 1) hx hb dX6_postOf_31 (by decide) ?_
    refine k_V1 (v := .int 0) hc [.int 1] cw_X6_61 rfl dX6_postOf_32 (c_X6_raises l hlf g _ q (up2 md 7 19 0) 1 hW) hW.o hM hS hl.1 rfl rfl ⟨Nat.le_of_ble_eq_true rfl, Nat.le_of_ble_eq_true rfl⟩ ⟨Nat.le_of_ble_eq_true rfl, Nat.le_of_ble_eq_true rfl⟩ (Nat.le_of_ble_eq_true rfl) (fun H locs hM hS => ?_)
    have hM := hR.eq hM putD_putD
    have hW := MdAt.put (g := g) (M := M) (m := q) (md := (up2 (up2 md 7 19 0) 7 19 1))
    exact k_iret hc hr dX6_postOf_35 hM hS (Nat.le_of_ble_eq_true rfl) (Nat.le_of_ble_eq_true rfl) (by first | (simp only [eq_self, eq_false c_10, eq_self, bM_l, bM_r, rsM_l, rsM_r, seV_l, seV_r, snE_l, snE_r, up1_at, up1_up1, up2_up2, not_false_eq_true, not_true_eq_false, and_true, true_and, and_false, false_and, and_self, ↓reduceIte, or_true, true_or, or_self, or_false, false_or]; done) | (simp only [eq_self, eq_false c_10, eq_self, bM_l, bM_r, rsM_l, rsM_r, seV_l, seV_r, snE_l, snE_r, up1_at, up1_up1, up2_up2, not_false_eq_true, not_true_eq_false, and_true, true_and, and_false, false_and, and_self, ↓reduceIte, or_true, true_or, or_self, or_false, false_or]; rfl))
  · skip
    have c_10 := bI_ne.mp c_10
    have ok_10 := isP_ok (f := md 0) hI c_10
    refine lv_aload_n hx hb dX6_postOf_13 rfl (lv_at hl 0 rfl) ?_
    refine lv_iload_n hx hb dX6_postOf_14 rfl (lv_at hl 1 rfl) ?_
    refine lv_iload_n hx hb dX6_postOf_15 rfl (lv_at hl 2 rfl) ?_
    refine lv_if_eq (tgt := 23) hx hb dX6_postOf_16 (by decide) (fun c_16 => ?_) (fun c_16 => ?_)
    · skip
      refine lv_iconst (v := 0) hx hb dX6_postOf_23 (by decide) ?_
      refine k_V1 (v := .int (mP (md 0) v 0)) hc [.int v, .int 0] cw_X6_91 rfl dX6_postOf_24 (c_X6_ofPost l hlf g _ q (up2 md 7 19 0) v 0 hW (by first | assumption | decide) (by first | assumption | decide)) hW.o hM hS hl.1 rfl rfl ⟨Nat.le_of_ble_eq_true rfl, Nat.le_of_ble_eq_true rfl⟩ ⟨Nat.le_of_ble_eq_true rfl, Nat.le_of_ble_eq_true rfl⟩ (Nat.le_of_ble_eq_true rfl) (fun H locs hM hS => ?_)
      refine lv_goto (tgt := 35) hx hb dX6_postOf_27 (by decide) ?_
      exact k_iret hc hr dX6_postOf_35 hM hS (Nat.le_of_ble_eq_true rfl) (Nat.le_of_ble_eq_true rfl) (by first | (simp only [eq_self, eq_true c_10, eq_true c_16, eq_self, bM_l, bM_r, rsM_l, rsM_r, seV_l, seV_r, snE_l, snE_r, up1_at, up1_up1, up2_up2, not_false_eq_true, not_true_eq_false, and_true, true_and, and_false, false_and, and_self, ↓reduceIte, or_true, true_or, or_self, or_false, false_or]; done) | (simp only [eq_self, eq_true c_10, eq_true c_16, eq_self, bM_l, bM_r, rsM_l, rsM_r, seV_l, seV_r, snE_l, snE_r, up1_at, up1_up1, up2_up2, not_false_eq_true, not_true_eq_false, and_true, true_and, and_false, false_and, and_self, ↓reduceIte, or_true, true_or, or_self, or_false, false_or]; rfl))
    · skip
      refine lv_iconst (v := 1) hx hb dX6_postOf_19 (by decide) ?_
      refine lv_goto (tgt := 24) hx hb dX6_postOf_20 (by decide) ?_
      refine k_V1 (v := .int (mP (md 0) v 1)) hc [.int v, .int 1] cw_X6_91 rfl dX6_postOf_24 (c_X6_ofPost l hlf g _ q (up2 md 7 19 0) v 1 hW (by first | assumption | decide) (by first | assumption | decide)) hW.o hM hS hl.1 rfl rfl ⟨Nat.le_of_ble_eq_true rfl, Nat.le_of_ble_eq_true rfl⟩ ⟨Nat.le_of_ble_eq_true rfl, Nat.le_of_ble_eq_true rfl⟩ (Nat.le_of_ble_eq_true rfl) (fun H locs hM hS => ?_)
      refine lv_goto (tgt := 35) hx hb dX6_postOf_27 (by decide) ?_
      exact k_iret hc hr dX6_postOf_35 hM hS (Nat.le_of_ble_eq_true rfl) (Nat.le_of_ble_eq_true rfl) (by first | (simp only [eq_self, eq_true c_10, eq_false c_16, eq_self, bM_l, bM_r, rsM_l, rsM_r, seV_l, seV_r, snE_l, snE_r, up1_at, up1_up1, up2_up2, not_false_eq_true, not_true_eq_false, and_true, true_and, and_false, false_and, and_self, ↓reduceIte, or_true, true_or, or_self, or_false, false_or]; done) | (simp only [eq_self, eq_true c_10, eq_false c_16, eq_self, bM_l, bM_r, rsM_l, rsM_r, seV_l, seV_r, snE_l, snE_r, up1_at, up1_up1, up2_up2, not_false_eq_true, not_true_eq_false, and_true, true_and, and_false, false_and, and_self, ↓reduceIte, or_true, true_or, or_self, or_false, false_or]; rfl))
set_option maxHeartbeats 4000000 in
set_option maxRecDepth 100000 in
theorem c_X6_camelOf (l : Launch) (hlf : l.stackTraces = false) (g : GC) (M : HM) (q : Nat) (md : FL) (v : Int32) (w : Int32) (hW : MdAt g M q md) (hI : mOk (md 0)) : KM g l yX6_camelOf cX6_camelOf 3 (some .int) 3 0 0 [.ref q, .int v, .int w] M (.inl (some (.int (if inB v 0 (md 0 5 - 1) then (if w = 0 ∨ w = 1 ∨ w = 2 then mC (md 0) v w else if w = 3 then (if lostM (md 0) v then 1 else 0) else if w = 4 then mC (md 0) v 3 else 0) else 0)), (putD g M q (up2 md 7 19 (if inB v 0 (md 0 5 - 1) then (if w = 0 ∨ w = 1 ∨ w = 2 ∨ w = 3 ∨ w = 4 then 0 else 2) else 1))))) := by
  refine k_meth hlf (by decide) (Nat.le_of_ble_eq_true rfl) fun p e s m below meth c ls hc hr hnx hM hS hl => ?_
  have hc : Cx g p l s m [.ref q, .int v, .int w].toArray meth c cX6_camelOf 3 RX6 := hc
  have hx := hc.1
  have hb := hc.2.1
  have hl : lv_has ls 3 [(0, .ref q), (1, .int v), (2, .int w)] := hl
  refine lv_aload_n hx hb dX6_camelOf_0 rfl (lv_at hl 0 rfl) ?_
  refine lv_iconst (v := 0) hx hb dX6_camelOf_1 (by decide) ?_
  refine pt_X6_36 hc dX6_camelOf_2 hM hS hW.o rfl rfl (Nat.le_of_ble_eq_true rfl) (fun H locs hM hS => ?_)
  have hM := hR.eq hM (putD_sc hW 19 (v := 0) md_s19)
  have hW := MdAt.put (g := g) (M := M) (m := q) (md := (up2 md 7 19 0))
  refine lv_aload_n hx hb dX6_camelOf_5 rfl (lv_at hl 0 rfl) ?_
  refine lv_iload_n hx hb dX6_camelOf_6 rfl (lv_at hl 1 rfl) ?_
  refine k_V1 (v := .int (bI (inB v 0 ((md 0) 5 - 1)))) hc [.int v] cw_X6_141 rfl dX6_camelOf_7 (c_X6_isCamel l hlf g _ q (up2 md 7 19 0) v hW) hW.o hM hS hl.1 rfl rfl ⟨Nat.le_of_ble_eq_true rfl, Nat.le_of_ble_eq_true rfl⟩ ⟨Nat.le_of_ble_eq_true rfl, Nat.le_of_ble_eq_true rfl⟩ (Nat.le_of_ble_eq_true rfl) (fun H locs hM hS => ?_)
  refine lv_if_ne (tgt := 19) hx hb dX6_camelOf_10 (by decide) (fun c_10 => ?_) (fun c_10 => ?_)
  · skip
    have c_10 := bI_ne.mp c_10
    have ok_10 := isC_ok (f := md 0) hI c_10
    refine lv_iload_n hx hb dX6_camelOf_19 rfl (lv_at hl 2 rfl) ?_
    by_cases c_20_0 : w = 0
    · skip
      have e_20 : w.toInt = 0 := by rw [c_20_0]; rfl
      refine lv_tableIn (tgt := 56) hx hb dX6_camelOf_20 (by rw [e_20]; decide) (by rw [e_20]; decide) (by rw [e_20]; rfl) (by decide) ?_
      have okw : okW w := by rw [c_20_0]; decide
      refine lv_aload_n hx hb dX6_camelOf_56 rfl (lv_at hl 0 rfl) ?_
      refine lv_iload_n hx hb dX6_camelOf_57 rfl (lv_at hl 1 rfl) ?_
      refine lv_iload_n hx hb dX6_camelOf_58 rfl (lv_at hl 2 rfl) ?_
      refine k_V1 (v := .int (mC (md 0) v w)) hc [.int v, .int w] cw_X6_68 rfl dX6_camelOf_59 (c_X6_ofCamel l hlf g _ q (up2 md 7 19 0) v w hW (by first | assumption | decide) (by first | assumption | decide)) hW.o hM hS hl.1 rfl rfl ⟨Nat.le_of_ble_eq_true rfl, Nat.le_of_ble_eq_true rfl⟩ ⟨Nat.le_of_ble_eq_true rfl, Nat.le_of_ble_eq_true rfl⟩ (Nat.le_of_ble_eq_true rfl) (fun H locs hM hS => ?_)
      exact k_iret hc hr dX6_camelOf_62 hM hS (Nat.le_of_ble_eq_true rfl) (Nat.le_of_ble_eq_true rfl) (by first | (simp only [eq_self, eq_true c_10, eq_true c_20_0, eq_self, bM_l, bM_r, rsM_l, rsM_r, seV_l, seV_r, snE_l, snE_r, up1_at, up1_up1, up2_up2, not_false_eq_true, not_true_eq_false, and_true, true_and, and_false, false_and, and_self, ↓reduceIte, or_true, true_or, or_self, or_false, false_or]; done) | (simp only [eq_self, eq_true c_10, eq_true c_20_0, eq_self, bM_l, bM_r, rsM_l, rsM_r, seV_l, seV_r, snE_l, snE_r, up1_at, up1_up1, up2_up2, not_false_eq_true, not_true_eq_false, and_true, true_and, and_false, false_and, and_self, ↓reduceIte, or_true, true_or, or_self, or_false, false_or]; rfl))
    by_cases c_20_1 : w = 1
    · skip
      have e_20 : w.toInt = 1 := by rw [c_20_1]; rfl
      refine lv_tableIn (tgt := 56) hx hb dX6_camelOf_20 (by rw [e_20]; decide) (by rw [e_20]; decide) (by rw [e_20]; rfl) (by decide) ?_
      have okw : okW w := by rw [c_20_1]; decide
      refine lv_aload_n hx hb dX6_camelOf_56 rfl (lv_at hl 0 rfl) ?_
      refine lv_iload_n hx hb dX6_camelOf_57 rfl (lv_at hl 1 rfl) ?_
      refine lv_iload_n hx hb dX6_camelOf_58 rfl (lv_at hl 2 rfl) ?_
      refine k_V1 (v := .int (mC (md 0) v w)) hc [.int v, .int w] cw_X6_68 rfl dX6_camelOf_59 (c_X6_ofCamel l hlf g _ q (up2 md 7 19 0) v w hW (by first | assumption | decide) (by first | assumption | decide)) hW.o hM hS hl.1 rfl rfl ⟨Nat.le_of_ble_eq_true rfl, Nat.le_of_ble_eq_true rfl⟩ ⟨Nat.le_of_ble_eq_true rfl, Nat.le_of_ble_eq_true rfl⟩ (Nat.le_of_ble_eq_true rfl) (fun H locs hM hS => ?_)
      exact k_iret hc hr dX6_camelOf_62 hM hS (Nat.le_of_ble_eq_true rfl) (Nat.le_of_ble_eq_true rfl) (by first | (simp only [eq_self, eq_true c_10, eq_false c_20_0, eq_true c_20_1, eq_self, bM_l, bM_r, rsM_l, rsM_r, seV_l, seV_r, snE_l, snE_r, up1_at, up1_up1, up2_up2, not_false_eq_true, not_true_eq_false, and_true, true_and, and_false, false_and, and_self, ↓reduceIte, or_true, true_or, or_self, or_false, false_or]; done) | (simp only [eq_self, eq_true c_10, eq_false c_20_0, eq_true c_20_1, eq_self, bM_l, bM_r, rsM_l, rsM_r, seV_l, seV_r, snE_l, snE_r, up1_at, up1_up1, up2_up2, not_false_eq_true, not_true_eq_false, and_true, true_and, and_false, false_and, and_self, ↓reduceIte, or_true, true_or, or_self, or_false, false_or]; rfl))
    by_cases c_20_2 : w = 2
    · skip
      have e_20 : w.toInt = 2 := by rw [c_20_2]; rfl
      refine lv_tableIn (tgt := 56) hx hb dX6_camelOf_20 (by rw [e_20]; decide) (by rw [e_20]; decide) (by rw [e_20]; rfl) (by decide) ?_
      have okw : okW w := by rw [c_20_2]; decide
      refine lv_aload_n hx hb dX6_camelOf_56 rfl (lv_at hl 0 rfl) ?_
      refine lv_iload_n hx hb dX6_camelOf_57 rfl (lv_at hl 1 rfl) ?_
      refine lv_iload_n hx hb dX6_camelOf_58 rfl (lv_at hl 2 rfl) ?_
      refine k_V1 (v := .int (mC (md 0) v w)) hc [.int v, .int w] cw_X6_68 rfl dX6_camelOf_59 (c_X6_ofCamel l hlf g _ q (up2 md 7 19 0) v w hW (by first | assumption | decide) (by first | assumption | decide)) hW.o hM hS hl.1 rfl rfl ⟨Nat.le_of_ble_eq_true rfl, Nat.le_of_ble_eq_true rfl⟩ ⟨Nat.le_of_ble_eq_true rfl, Nat.le_of_ble_eq_true rfl⟩ (Nat.le_of_ble_eq_true rfl) (fun H locs hM hS => ?_)
      exact k_iret hc hr dX6_camelOf_62 hM hS (Nat.le_of_ble_eq_true rfl) (Nat.le_of_ble_eq_true rfl) (by first | (simp only [eq_self, eq_true c_10, eq_false c_20_0, eq_false c_20_1, eq_true c_20_2, eq_self, bM_l, bM_r, rsM_l, rsM_r, seV_l, seV_r, snE_l, snE_r, up1_at, up1_up1, up2_up2, not_false_eq_true, not_true_eq_false, and_true, true_and, and_false, false_and, and_self, ↓reduceIte, or_true, true_or, or_self, or_false, false_or]; done) | (simp only [eq_self, eq_true c_10, eq_false c_20_0, eq_false c_20_1, eq_true c_20_2, eq_self, bM_l, bM_r, rsM_l, rsM_r, seV_l, seV_r, snE_l, snE_r, up1_at, up1_up1, up2_up2, not_false_eq_true, not_true_eq_false, and_true, true_and, and_false, false_and, and_self, ↓reduceIte, or_true, true_or, or_self, or_false, false_or]; rfl))
    by_cases c_20_3 : w = 3
    · skip
      have e_20 : w.toInt = 3 := by rw [c_20_3]; rfl
      refine lv_tableIn (tgt := 63) hx hb dX6_camelOf_20 (by rw [e_20]; decide) (by rw [e_20]; decide) (by rw [e_20]; rfl) (by decide) ?_
      refine lv_aload_n hx hb dX6_camelOf_63 rfl (lv_at hl 0 rfl) ?_
      refine lv_iload_n hx hb dX6_camelOf_64 rfl (lv_at hl 1 rfl) ?_
      refine k_V1 (v := .int (bI (lostM (md 0) v))) hc [.int v] cw_X6_135 rfl dX6_camelOf_65 (c_X6_isLost l hlf g _ q (up2 md 7 19 0) v hW (by first | assumption | decide)) hW.o hM hS hl.1 rfl rfl ⟨Nat.le_of_ble_eq_true rfl, Nat.le_of_ble_eq_true rfl⟩ ⟨Nat.le_of_ble_eq_true rfl, Nat.le_of_ble_eq_true rfl⟩ (Nat.le_of_ble_eq_true rfl) (fun H locs hM hS => ?_)
      refine lv_if_eq (tgt := 75) hx hb dX6_camelOf_68 (by decide) (fun c_68 => ?_) (fun c_68 => ?_)
      · skip
        have c_68 := bI_eq.mp c_68
        refine lv_iconst (v := 0) hx hb dX6_camelOf_75 (by decide) ?_
        exact k_iret hc hr dX6_camelOf_76 hM hS (Nat.le_of_ble_eq_true rfl) (Nat.le_of_ble_eq_true rfl) (by first | (simp only [eq_self, eq_true c_10, eq_false c_20_0, eq_false c_20_1, eq_false c_20_2, eq_true c_20_3, eq_false c_68, eq_self, bM_l, bM_r, rsM_l, rsM_r, seV_l, seV_r, snE_l, snE_r, up1_at, up1_up1, up2_up2, not_false_eq_true, not_true_eq_false, and_true, true_and, and_false, false_and, and_self, ↓reduceIte, or_true, true_or, or_self, or_false, false_or]; done) | (simp only [eq_self, eq_true c_10, eq_false c_20_0, eq_false c_20_1, eq_false c_20_2, eq_true c_20_3, eq_false c_68, eq_self, bM_l, bM_r, rsM_l, rsM_r, seV_l, seV_r, snE_l, snE_r, up1_at, up1_up1, up2_up2, not_false_eq_true, not_true_eq_false, and_true, true_and, and_false, false_and, and_self, ↓reduceIte, or_true, true_or, or_self, or_false, false_or]; rfl))
      · skip
        have c_68 := bI_ne.mp c_68
        refine lv_iconst (v := 1) hx hb dX6_camelOf_71 (by decide) ?_
        refine lv_goto (tgt := 76) hx hb dX6_camelOf_72 (by decide) ?_
        exact k_iret hc hr dX6_camelOf_76 hM hS (Nat.le_of_ble_eq_true rfl) (Nat.le_of_ble_eq_true rfl) (by first | (simp only [eq_self, eq_true c_10, eq_false c_20_0, eq_false c_20_1, eq_false c_20_2, eq_true c_20_3, eq_true c_68, eq_self, bM_l, bM_r, rsM_l, rsM_r, seV_l, seV_r, snE_l, snE_r, up1_at, up1_up1, up2_up2, not_false_eq_true, not_true_eq_false, and_true, true_and, and_false, false_and, and_self, ↓reduceIte, or_true, true_or, or_self, or_false, false_or]; done) | (simp only [eq_self, eq_true c_10, eq_false c_20_0, eq_false c_20_1, eq_false c_20_2, eq_true c_20_3, eq_true c_68, eq_self, bM_l, bM_r, rsM_l, rsM_r, seV_l, seV_r, snE_l, snE_r, up1_at, up1_up1, up2_up2, not_false_eq_true, not_true_eq_false, and_true, true_and, and_false, false_and, and_self, ↓reduceIte, or_true, true_or, or_self, or_false, false_or]; rfl))
    by_cases c_20_4 : w = 4
    · skip
      have e_20 : w.toInt = 4 := by rw [c_20_4]; rfl
      refine lv_tableIn (tgt := 77) hx hb dX6_camelOf_20 (by rw [e_20]; decide) (by rw [e_20]; decide) (by rw [e_20]; rfl) (by decide) ?_
      refine lv_aload_n hx hb dX6_camelOf_77 rfl (lv_at hl 0 rfl) ?_
      refine lv_iload_n hx hb dX6_camelOf_78 rfl (lv_at hl 1 rfl) ?_
      refine lv_iconst (v := 3) hx hb dX6_camelOf_79 (by decide) ?_
      refine k_V1 (v := .int (mC (md 0) v 3)) hc [.int v, .int 3] cw_X6_68 rfl dX6_camelOf_80 (c_X6_ofCamel l hlf g _ q (up2 md 7 19 0) v 3 hW (by first | assumption | decide) (by first | assumption | decide)) hW.o hM hS hl.1 rfl rfl ⟨Nat.le_of_ble_eq_true rfl, Nat.le_of_ble_eq_true rfl⟩ ⟨Nat.le_of_ble_eq_true rfl, Nat.le_of_ble_eq_true rfl⟩ (Nat.le_of_ble_eq_true rfl) (fun H locs hM hS => ?_)
      exact k_iret hc hr dX6_camelOf_83 hM hS (Nat.le_of_ble_eq_true rfl) (Nat.le_of_ble_eq_true rfl) (by first | (simp only [eq_self, eq_true c_10, eq_false c_20_0, eq_false c_20_1, eq_false c_20_2, eq_false c_20_3, eq_true c_20_4, eq_self, bM_l, bM_r, rsM_l, rsM_r, seV_l, seV_r, snE_l, snE_r, up1_at, up1_up1, up2_up2, not_false_eq_true, not_true_eq_false, and_true, true_and, and_false, false_and, and_self, ↓reduceIte, or_true, true_or, or_self, or_false, false_or]; done) | (simp only [eq_self, eq_true c_10, eq_false c_20_0, eq_false c_20_1, eq_false c_20_2, eq_false c_20_3, eq_true c_20_4, eq_self, bM_l, bM_r, rsM_l, rsM_r, seV_l, seV_r, snE_l, snE_r, up1_at, up1_up1, up2_up2, not_false_eq_true, not_true_eq_false, and_true, true_and, and_false, false_and, and_self, ↓reduceIte, or_true, true_or, or_self, or_false, false_or]; rfl))
    have t_20 : (w.toInt < 0 ∨ 4 < w.toInt) ∨ (¬ w.toInt < 0 ∧ ¬ 4 < w.toInt ∧ (#[(36 : Int), (36 : Int), (36 : Int), (43 : Int), (57 : Int)] : Array Int)[(w.toInt - 0).toNat]? = some 64) := by
      by_cases h1 : w.toInt < 0
      · exact Or.inl (Or.inl h1)
      by_cases h2 : 4 < w.toInt
      · exact Or.inl (Or.inr h2)
      exact Or.inr ⟨h1, h2, tab_df (n := 5) (exc := [0, 1, 2, 3, 4]) (by decide) h1 h2 (by decide) (exc_c (tab_ne c_20_0 (by decide) h1) (exc_c (tab_ne c_20_1 (by decide) h1) (exc_c (tab_ne c_20_2 (by decide) h1) (exc_c (tab_ne c_20_3 (by decide) h1) (exc_c (tab_ne c_20_4 (by decide) h1) exc_n)))))⟩
    refine k_tabDf (tgt := 84) hx hb dX6_camelOf_20 t_20 (by decide) ?_
    refine lv_aload_n hx hb dX6_camelOf_84 rfl (lv_at hl 0 rfl) ?_
    refine lv_iconst (v := 2) hx hb dX6_camelOf_85 (by decide) ?_
    refine k_V1 (v := .int 0) hc [.int 2] cw_X6_61 rfl dX6_camelOf_86 (c_X6_raises l hlf g _ q (up2 md 7 19 0) 2 hW) hW.o hM hS hl.1 rfl rfl ⟨Nat.le_of_ble_eq_true rfl, Nat.le_of_ble_eq_true rfl⟩ ⟨Nat.le_of_ble_eq_true rfl, Nat.le_of_ble_eq_true rfl⟩ (Nat.le_of_ble_eq_true rfl) (fun H locs hM hS => ?_)
    have hM := hR.eq hM putD_putD
    have hW := MdAt.put (g := g) (M := M) (m := q) (md := (up2 (up2 md 7 19 0) 7 19 2))
    exact k_iret hc hr dX6_camelOf_89 hM hS (Nat.le_of_ble_eq_true rfl) (Nat.le_of_ble_eq_true rfl) (by first | (simp only [eq_self, eq_true c_10, eq_false c_20_0, eq_false c_20_1, eq_false c_20_2, eq_false c_20_3, eq_false c_20_4, eq_self, bM_l, bM_r, rsM_l, rsM_r, seV_l, seV_r, snE_l, snE_r, up1_at, up1_up1, up2_up2, not_false_eq_true, not_true_eq_false, and_true, true_and, and_false, false_and, and_self, ↓reduceIte, or_true, true_or, or_self, or_false, false_or]; done) | (simp only [eq_self, eq_true c_10, eq_false c_20_0, eq_false c_20_1, eq_false c_20_2, eq_false c_20_3, eq_false c_20_4, eq_self, bM_l, bM_r, rsM_l, rsM_r, seV_l, seV_r, snE_l, snE_r, up1_at, up1_up1, up2_up2, not_false_eq_true, not_true_eq_false, and_true, true_and, and_false, false_and, and_self, ↓reduceIte, or_true, true_or, or_self, or_false, false_or]; rfl))
  · skip
    have c_10 := bI_eq.mp c_10
    refine lv_aload_n hx hb dX6_camelOf_13 rfl (lv_at hl 0 rfl) ?_
    refine lv_iconst (v := 1) hx hb dX6_camelOf_14 (by decide) ?_
    refine k_V1 (v := .int 0) hc [.int 1] cw_X6_61 rfl dX6_camelOf_15 (c_X6_raises l hlf g _ q (up2 md 7 19 0) 1 hW) hW.o hM hS hl.1 rfl rfl ⟨Nat.le_of_ble_eq_true rfl, Nat.le_of_ble_eq_true rfl⟩ ⟨Nat.le_of_ble_eq_true rfl, Nat.le_of_ble_eq_true rfl⟩ (Nat.le_of_ble_eq_true rfl) (fun H locs hM hS => ?_)
    have hM := hR.eq hM putD_putD
    have hW := MdAt.put (g := g) (M := M) (m := q) (md := (up2 (up2 md 7 19 0) 7 19 1))
    exact k_iret hc hr dX6_camelOf_18 hM hS (Nat.le_of_ble_eq_true rfl) (Nat.le_of_ble_eq_true rfl) (by first | (simp only [eq_self, eq_false c_10, eq_self, bM_l, bM_r, rsM_l, rsM_r, seV_l, seV_r, snE_l, snE_r, up1_at, up1_up1, up2_up2, not_false_eq_true, not_true_eq_false, and_true, true_and, and_false, false_and, and_self, ↓reduceIte, or_true, true_or, or_self, or_false, false_or]; done) | (simp only [eq_self, eq_false c_10, eq_self, bM_l, bM_r, rsM_l, rsM_r, seV_l, seV_r, snE_l, snE_r, up1_at, up1_up1, up2_up2, not_false_eq_true, not_true_eq_false, and_true, true_and, and_false, false_and, and_self, ↓reduceIte, or_true, true_or, or_self, or_false, false_or]; rfl))
set_option maxHeartbeats 4000000 in
set_option maxRecDepth 100000 in
theorem c_X6_drawnAt (l : Launch) (hlf : l.stackTraces = false) (g : GC) (M : HM) (q : Nat) (md : FL) (v : Int32) (w : Int32) (hW : MdAt g M q md) (hI : mOk (md 0)) : KM g l yX6_drawnAt cX6_drawnAt 3 (some .int) 3 0 0 [.ref q, .int v, .int w] M (.inl (some (.int (if inB v 0 (md 0 2 - 1) ∧ inB w 0 (md 0 4 - 1) then (if 0 ≤ mD (md 0) v w then mD (md 0) v w else 0) else 0)), (putD g M q (up2 md 7 19 (if inB v 0 (md 0 2 - 1) ∧ inB w 0 (md 0 4 - 1) then (if 0 ≤ mD (md 0) v w then 0 else 2) else 1))))) := by
  refine k_meth hlf (by decide) (Nat.le_of_ble_eq_true rfl) fun p e s m below meth c ls hc hr hnx hM hS hl => ?_
  have hc : Cx g p l s m [.ref q, .int v, .int w].toArray meth c cX6_drawnAt 3 RX6 := hc
  have hx := hc.1
  have hb := hc.2.1
  have hl : lv_has ls 3 [(0, .ref q), (1, .int v), (2, .int w)] := hl
  refine lv_aload_n hx hb dX6_drawnAt_0 rfl (lv_at hl 0 rfl) ?_
  refine lv_iconst (v := 0) hx hb dX6_drawnAt_1 (by decide) ?_
  refine pt_X6_36 hc dX6_drawnAt_2 hM hS hW.o rfl rfl (Nat.le_of_ble_eq_true rfl) (fun H locs hM hS => ?_)
  have hM := hR.eq hM (putD_sc hW 19 (v := 0) md_s19)
  have hW := MdAt.put (g := g) (M := M) (m := q) (md := (up2 md 7 19 0))
  refine lv_aload_n hx hb dX6_drawnAt_5 rfl (lv_at hl 0 rfl) ?_
  refine lv_iload_n hx hb dX6_drawnAt_6 rfl (lv_at hl 1 rfl) ?_
  refine k_V1 (v := .int (bI (inB v 0 ((md 0) 2 - 1)))) hc [.int v] cw_X6_103 rfl dX6_drawnAt_7 (c_X6_isStake l hlf g _ q (up2 md 7 19 0) v hW) hW.o hM hS hl.1 rfl rfl ⟨Nat.le_of_ble_eq_true rfl, Nat.le_of_ble_eq_true rfl⟩ ⟨Nat.le_of_ble_eq_true rfl, Nat.le_of_ble_eq_true rfl⟩ (Nat.le_of_ble_eq_true rfl) (fun H locs hM hS => ?_)
  refine lv_if_eq (tgt := 21) hx hb dX6_drawnAt_10 (by decide) (fun c_10 => ?_) (fun c_10 => ?_)
  · skip
    have c_10 := bI_eq.mp c_10
    refine lv_aload_n hx hb dX6_drawnAt_21 rfl (lv_at hl 0 rfl) ?_
    refine lv_iconst (v := 1) hx hb dX6_drawnAt_22 (by decide) ?_
    refine k_V1 (v := .int 0) hc [.int 1] cw_X6_61 rfl dX6_drawnAt_23 (c_X6_raises l hlf g _ q (up2 md 7 19 0) 1 hW) hW.o hM hS hl.1 rfl rfl ⟨Nat.le_of_ble_eq_true rfl, Nat.le_of_ble_eq_true rfl⟩ ⟨Nat.le_of_ble_eq_true rfl, Nat.le_of_ble_eq_true rfl⟩ (Nat.le_of_ble_eq_true rfl) (fun H locs hM hS => ?_)
    have hM := hR.eq hM putD_putD
    have hW := MdAt.put (g := g) (M := M) (m := q) (md := (up2 (up2 md 7 19 0) 7 19 1))
    exact k_iret hc hr dX6_drawnAt_26 hM hS (Nat.le_of_ble_eq_true rfl) (Nat.le_of_ble_eq_true rfl) (by first | (simp only [eq_self, eq_false c_10, eq_self, bM_l, bM_r, rsM_l, rsM_r, seV_l, seV_r, snE_l, snE_r, up1_at, up1_up1, up2_up2, not_false_eq_true, not_true_eq_false, and_true, true_and, and_false, false_and, and_self, ↓reduceIte, or_true, true_or, or_self, or_false, false_or]; done) | (simp only [eq_self, eq_false c_10, eq_self, bM_l, bM_r, rsM_l, rsM_r, seV_l, seV_r, snE_l, snE_r, up1_at, up1_up1, up2_up2, not_false_eq_true, not_true_eq_false, and_true, true_and, and_false, false_and, and_self, ↓reduceIte, or_true, true_or, or_self, or_false, false_or]; rfl))
  · skip
    have c_10 := bI_ne.mp c_10
    have ok_10 := isS_ok (f := md 0) hI c_10
    refine lv_aload_n hx hb dX6_drawnAt_13 rfl (lv_at hl 0 rfl) ?_
    refine lv_iload_n hx hb dX6_drawnAt_14 rfl (lv_at hl 2 rfl) ?_
    refine k_V1 (v := .int (bI (inB w 0 ((md 0) 4 - 1)))) hc [.int w] cw_X6_110 rfl dX6_drawnAt_15 (c_X6_isSheet l hlf g _ q (up2 md 7 19 0) w hW) hW.o hM hS hl.1 rfl rfl ⟨Nat.le_of_ble_eq_true rfl, Nat.le_of_ble_eq_true rfl⟩ ⟨Nat.le_of_ble_eq_true rfl, Nat.le_of_ble_eq_true rfl⟩ (Nat.le_of_ble_eq_true rfl) (fun H locs hM hS => ?_)
    refine lv_if_ne (tgt := 27) hx hb dX6_drawnAt_18 (by decide) (fun c_18 => ?_) (fun c_18 => ?_)
    · skip
      have c_18 := bI_ne.mp c_18
      have ok_18 := isH_ok (f := md 0) hI c_18
      refine lv_aload_n hx hb dX6_drawnAt_27 rfl (lv_at hl 0 rfl) ?_
      refine lv_iload_n hx hb dX6_drawnAt_28 rfl (lv_at hl 1 rfl) ?_
      refine lv_iload_n hx hb dX6_drawnAt_29 rfl (lv_at hl 2 rfl) ?_
      refine k_V1 (v := .int (mD (md 0) v w)) hc [.int v, .int w] cw_X6_125 rfl dX6_drawnAt_30 (c_X6_drawn l hlf g _ q (up2 md 7 19 0) v w hW (by first | assumption | decide) (by first | assumption | decide)) hW.o hM hS hl.1 rfl rfl ⟨Nat.le_of_ble_eq_true rfl, Nat.le_of_ble_eq_true rfl⟩ ⟨Nat.le_of_ble_eq_true rfl, Nat.le_of_ble_eq_true rfl⟩ (Nat.le_of_ble_eq_true rfl) (fun H locs hM hS => ?_)
      refine lv_if_ge (tgt := 44) hx hb dX6_drawnAt_33 (by decide) (fun c_33 => ?_) (fun c_33 => ?_)
      · skip
        refine lv_aload_n hx hb dX6_drawnAt_44 rfl (lv_at hl 0 rfl) ?_
        refine lv_iload_n hx hb dX6_drawnAt_45 rfl (lv_at hl 1 rfl) ?_
        refine lv_iload_n hx hb dX6_drawnAt_46 rfl (lv_at hl 2 rfl) ?_
        refine k_V1 (v := .int (mD (md 0) v w)) hc [.int v, .int w] cw_X6_125 rfl dX6_drawnAt_47 (c_X6_drawn l hlf g _ q (up2 md 7 19 0) v w hW (by first | assumption | decide) (by first | assumption | decide)) hW.o hM hS hl.1 rfl rfl ⟨Nat.le_of_ble_eq_true rfl, Nat.le_of_ble_eq_true rfl⟩ ⟨Nat.le_of_ble_eq_true rfl, Nat.le_of_ble_eq_true rfl⟩ (Nat.le_of_ble_eq_true rfl) (fun H locs hM hS => ?_)
        exact k_iret hc hr dX6_drawnAt_50 hM hS (Nat.le_of_ble_eq_true rfl) (Nat.le_of_ble_eq_true rfl) (by first | (simp only [eq_self, eq_true c_10, eq_true c_18, eq_true c_33, eq_self, bM_l, bM_r, rsM_l, rsM_r, seV_l, seV_r, snE_l, snE_r, up1_at, up1_up1, up2_up2, not_false_eq_true, not_true_eq_false, and_true, true_and, and_false, false_and, and_self, ↓reduceIte, or_true, true_or, or_self, or_false, false_or]; done) | (simp only [eq_self, eq_true c_10, eq_true c_18, eq_true c_33, eq_self, bM_l, bM_r, rsM_l, rsM_r, seV_l, seV_r, snE_l, snE_r, up1_at, up1_up1, up2_up2, not_false_eq_true, not_true_eq_false, and_true, true_and, and_false, false_and, and_self, ↓reduceIte, or_true, true_or, or_self, or_false, false_or]; rfl))
      · skip
        refine lv_aload_n hx hb dX6_drawnAt_36 rfl (lv_at hl 0 rfl) ?_
        refine lv_iconst (v := 2) hx hb dX6_drawnAt_37 (by decide) ?_
        refine k_V1 (v := .int 0) hc [.int 2] cw_X6_61 rfl dX6_drawnAt_38 (c_X6_raises l hlf g _ q (up2 md 7 19 0) 2 hW) hW.o hM hS hl.1 rfl rfl ⟨Nat.le_of_ble_eq_true rfl, Nat.le_of_ble_eq_true rfl⟩ ⟨Nat.le_of_ble_eq_true rfl, Nat.le_of_ble_eq_true rfl⟩ (Nat.le_of_ble_eq_true rfl) (fun H locs hM hS => ?_)
        have hM := hR.eq hM putD_putD
        have hW := MdAt.put (g := g) (M := M) (m := q) (md := (up2 (up2 md 7 19 0) 7 19 2))
        refine lv_goto (tgt := 50) hx hb dX6_drawnAt_41 (by decide) ?_
        exact k_iret hc hr dX6_drawnAt_50 hM hS (Nat.le_of_ble_eq_true rfl) (Nat.le_of_ble_eq_true rfl) (by first | (simp only [eq_self, eq_true c_10, eq_true c_18, eq_false c_33, eq_self, bM_l, bM_r, rsM_l, rsM_r, seV_l, seV_r, snE_l, snE_r, up1_at, up1_up1, up2_up2, not_false_eq_true, not_true_eq_false, and_true, true_and, and_false, false_and, and_self, ↓reduceIte, or_true, true_or, or_self, or_false, false_or]; done) | (simp only [eq_self, eq_true c_10, eq_true c_18, eq_false c_33, eq_self, bM_l, bM_r, rsM_l, rsM_r, seV_l, seV_r, snE_l, snE_r, up1_at, up1_up1, up2_up2, not_false_eq_true, not_true_eq_false, and_true, true_and, and_false, false_and, and_self, ↓reduceIte, or_true, true_or, or_self, or_false, false_or]; rfl))
    · skip
      have c_18 := bI_eq.mp c_18
      refine lv_aload_n hx hb dX6_drawnAt_21 rfl (lv_at hl 0 rfl) ?_
      refine lv_iconst (v := 1) hx hb dX6_drawnAt_22 (by decide) ?_
      refine k_V1 (v := .int 0) hc [.int 1] cw_X6_61 rfl dX6_drawnAt_23 (c_X6_raises l hlf g _ q (up2 md 7 19 0) 1 hW) hW.o hM hS hl.1 rfl rfl ⟨Nat.le_of_ble_eq_true rfl, Nat.le_of_ble_eq_true rfl⟩ ⟨Nat.le_of_ble_eq_true rfl, Nat.le_of_ble_eq_true rfl⟩ (Nat.le_of_ble_eq_true rfl) (fun H locs hM hS => ?_)
      have hM := hR.eq hM putD_putD
      have hW := MdAt.put (g := g) (M := M) (m := q) (md := (up2 (up2 md 7 19 0) 7 19 1))
      exact k_iret hc hr dX6_drawnAt_26 hM hS (Nat.le_of_ble_eq_true rfl) (Nat.le_of_ble_eq_true rfl) (by first | (simp only [eq_self, eq_true c_10, eq_false c_18, eq_self, bM_l, bM_r, rsM_l, rsM_r, seV_l, seV_r, snE_l, snE_r, up1_at, up1_up1, up2_up2, not_false_eq_true, not_true_eq_false, and_true, true_and, and_false, false_and, and_self, ↓reduceIte, or_true, true_or, or_self, or_false, false_or]; done) | (simp only [eq_self, eq_true c_10, eq_false c_18, eq_self, bM_l, bM_r, rsM_l, rsM_r, seV_l, seV_r, snE_l, snE_r, up1_at, up1_up1, up2_up2, not_false_eq_true, not_true_eq_false, and_true, true_and, and_false, false_and, and_self, ↓reduceIte, or_true, true_or, or_self, or_false, false_or]; rfl))
set_option maxHeartbeats 4000000 in
set_option maxRecDepth 100000 in
theorem c_X6_wrongBy (l : Launch) (hlf : l.stackTraces = false) (g : GC) (M : HM) (q : Nat) (md : FL) (v : Int32) (hW : MdAt g M q md) (hI : mOk (md 0)) : KM g l yX6_wrongBy cX6_wrongBy 4 (some .int) 5 0 0 [.ref q, .int v] M (.inl (some (.int (if inB v 0 (md 0 4 - 1) then itr (wbM (md 0) v) 0 (md 0 2).toNatClampNeg else 0)), (putD g M q (up2 md 7 19 (if inB v 0 (md 0 4 - 1) then 0 else 1))))) := by
  refine k_meth hlf (by decide) (Nat.le_of_ble_eq_true rfl) fun p e s m below meth c ls hc hr hnx hM hS hl => ?_
  have hc : Cx g p l s m [.ref q, .int v].toArray meth c cX6_wrongBy 4 RX6 := hc
  have hx := hc.1
  have hb := hc.2.1
  have hl : lv_has ls 4 [(0, .ref q), (1, .int v)] := hl
  refine lv_aload_n hx hb dX6_wrongBy_0 rfl (lv_at hl 0 rfl) ?_
  refine lv_iconst (v := 0) hx hb dX6_wrongBy_1 (by decide) ?_
  refine pt_X6_36 hc dX6_wrongBy_2 hM hS hW.o rfl rfl (Nat.le_of_ble_eq_true rfl) (fun H locs hM hS => ?_)
  have hM := hR.eq hM (putD_sc hW 19 (v := 0) md_s19)
  have hW := MdAt.put (g := g) (M := M) (m := q) (md := (up2 md 7 19 0))
  refine lv_aload_n hx hb dX6_wrongBy_5 rfl (lv_at hl 0 rfl) ?_
  refine lv_iload_n hx hb dX6_wrongBy_6 rfl (lv_at hl 1 rfl) ?_
  refine k_V1 (v := .int (bI (inB v 0 ((md 0) 4 - 1)))) hc [.int v] cw_X6_110 rfl dX6_wrongBy_7 (c_X6_isSheet l hlf g _ q (up2 md 7 19 0) v hW) hW.o hM hS hl.1 rfl rfl ⟨Nat.le_of_ble_eq_true rfl, Nat.le_of_ble_eq_true rfl⟩ ⟨Nat.le_of_ble_eq_true rfl, Nat.le_of_ble_eq_true rfl⟩ (Nat.le_of_ble_eq_true rfl) (fun H locs hM hS => ?_)
  refine lv_if_ne (tgt := 19) hx hb dX6_wrongBy_10 (by decide) (fun c_10 => ?_) (fun c_10 => ?_)
  · skip
    have c_10 := bI_ne.mp c_10
    have ok_10 := isH_ok (f := md 0) hI c_10
    refine lv_iconst (v := 0) hx hb dX6_wrongBy_19 (by decide) ?_
    refine lv_istore_n (lv' := [(2, .int 0), (0, .ref q), (1, .int v)]) hx hb dX6_wrongBy_20 rfl hl (by decide) rfl (fun ls hl => ?_)
    refine lv_iconst (v := 0) hx hb dX6_wrongBy_21 (by decide) ?_
    refine lv_istore_n (lv' := [(3, .int 0), (2, .int 0), (0, .ref q), (1, .int v)]) hx hb dX6_wrongBy_22 rfl hl (by decide) rfl (fun ls hl => ?_)
    have lp_23 : ∀ (D k : Nat), ((md 0 2).toNatClampNeg) - k < D → k ≤ (md 0 2).toNatClampNeg → ∀ (ls : Array Slot) (H : Heap) (locs : List Loc), hR g (putD g M q (up2 md 7 19 0)) H → va_S (gA g) s.heap H locs → lv_has ls 4 [(3, .int (nI k)), (2, .int (itr (wbM (md 0) v) 0 k)), (0, .ref q), (1, .int v)] → W p l e (rmOf 5 0 0) s m [.ref q, .int v].toArray below meth c H locs 0 0 (vx_MQ below (KQ g (.inl (some (.int (if inB v 0 (md 0 4 - 1) then itr (wbM (md 0) v) 0 (md 0 2).toNatClampNeg else 0)), (putD g M q (up2 md 7 19 (if inB v 0 (md 0 4 - 1) then 0 else 1)))))) (KX g (.inl (some (.int (if inB v 0 (md 0 4 - 1) then itr (wbM (md 0) v) 0 (md 0 2).toNatClampNeg else 0)), (putD g M q (up2 md 7 19 (if inB v 0 (md 0 4 - 1) then 0 else 1)))))) [.ref q, .int v].toArray s 0 0 (gA g)) (F0 m 23 ls []) := by
      intro D
      induction D with
      | zero => intro k hD; exact absurd hD (Nat.not_lt_zero _)
      | succ D ih_23 =>
        intro k hD hk ls H locs hM hS hl
        refine lv_iload_n hx hb dX6_wrongBy_23 rfl (lv_at hl 0 rfl) ?_
        refine lv_aload_n hx hb dX6_wrongBy_24 rfl (lv_at hl 2 rfl) ?_
        refine gt_X6_9 hc dX6_wrongBy_25 hM hW.o rfl ?_
        refine lv_iconst (v := 2) hx hb dX6_wrongBy_28 (by decide) ?_
        refine k_ialdN hc hM (n := 81) (show (putD g M q (up2 md 7 19 0)) (q + 1) = some (.inl (gI g, 81, .inl (md 0))) from (hW.ar 0 (by decide) (by decide) rfl rfl)) (X := 2) rfl (by omega) (by decide) dX6_wrongBy_29 ?_
        refine lv_icmp_ge (tgt := 70) hx hb dX6_wrongBy_30 (by decide) (fun c_30 => ?_) (fun c_30 => ?_)
        · skip
          have c_30 : (md 0 2).toNatClampNeg ≤ k := (k_le (by have := k_clamp_lt (md 0 2); omega)).mp c_30
          have z_2 : (itr (wbM (md 0) v) 0 k) = (itr (wbM (md 0) v) 0 (md 0 2).toNatClampNeg) := (by rw [show k = (md 0 2).toNatClampNeg by omega])
          have hl := lv_chg (lv_sub hl [1, 0, 2, 3] rfl) z_2
          refine lv_iload_n hx hb dX6_wrongBy_70 rfl (lv_at hl 0 rfl) ?_
          exact k_iret hc hr dX6_wrongBy_71 hM hS (Nat.le_of_ble_eq_true rfl) (Nat.le_of_ble_eq_true rfl) (by first | (simp only [eq_self, eq_true c_10, eq_true c_30, eq_self, bM_l, bM_r, rsM_l, rsM_r, seV_l, seV_r, snE_l, snE_r, up1_at, up1_up1, up2_up2, not_false_eq_true, not_true_eq_false, and_true, true_and, and_false, false_and, and_self, ↓reduceIte, or_true, true_or, or_self, or_false, false_or]; done) | (simp only [eq_self, eq_true c_10, eq_true c_30, eq_self, bM_l, bM_r, rsM_l, rsM_r, seV_l, seV_r, snE_l, snE_r, up1_at, up1_up1, up2_up2, not_false_eq_true, not_true_eq_false, and_true, true_and, and_false, false_and, and_self, ↓reduceIte, or_true, true_or, or_self, or_false, false_or]; rfl))
        · skip
          have c_30 : ¬ (md 0 2).toNatClampNeg ≤ k := fun h => c_30 ((k_le (by have := k_clamp_lt (md 0 2); omega)).mpr h)
          have ok_30 := kS_ok (f := md 0) hI c_30
          refine lv_aload_n hx hb dX6_wrongBy_33 rfl (lv_at hl 2 rfl) ?_
          refine lv_iload_n hx hb dX6_wrongBy_34 rfl (lv_at hl 0 rfl) ?_
          refine lv_iload_n hx hb dX6_wrongBy_35 rfl (lv_at hl 3 rfl) ?_
          refine k_V1 (v := .int (mD (md 0) (nI k) v)) hc [.int (nI k), .int v] cw_X6_125 rfl dX6_wrongBy_36 (c_X6_drawn l hlf g _ q (up2 md 7 19 0) (nI k) v hW (by first | assumption | decide) (by first | assumption | decide)) hW.o hM hS hl.1 rfl rfl ⟨Nat.le_of_ble_eq_true rfl, Nat.le_of_ble_eq_true rfl⟩ ⟨Nat.le_of_ble_eq_true rfl, Nat.le_of_ble_eq_true rfl⟩ (Nat.le_of_ble_eq_true rfl) (fun H locs hM hS => ?_)
          refine lv_if_lt (tgt := 64) hx hb dX6_wrongBy_39 (by decide) (fun c_39 => ?_) (fun c_39 => ?_)
          · skip
            have c_39 : mD (md 0) (nI k) v < 0 := c_39
            refine lv_iinc (v := (nI (k + 1))) (lv' := [(3, .int (nI (k + 1))), (2, .int (itr (wbM (md 0) v) 0 k)), (0, .ref q), (1, .int v)]) hx hb dX6_wrongBy_64 hl (k := 0) rfl (k_inc1 _) (by decide) rfl (fun ls hl => ?_)
            refine lv_goto (tgt := 23) hx hb dX6_wrongBy_67 (by decide) ?_
            have z_2 : (itr (wbM (md 0) v) 0 k) = (itr (wbM (md 0) v) 0 (k + 1)) := (by rw [itr_s]; simp only [wbM, eq_true c_10, eq_false c_30, eq_true c_39, not_false_eq_true, not_true_eq_false, and_true, true_and, and_false, false_and, and_self, ↓reduceIte, or_true, true_or, or_self, or_false, false_or]; try rfl)
            have hl := lv_chg (lv_sub hl [1, 0, 2, 3] rfl) z_2
            exact ih_23 (k + 1) (by omega) (by omega) ls _ _ hM hS (lv_sub hl [1, 0, 2, 3] rfl)
          · skip
            have c_39 : ¬ mD (md 0) (nI k) v < 0 := c_39
            refine lv_iload_n hx hb dX6_wrongBy_42 rfl (lv_at hl 1 rfl) ?_
            refine lv_aload_n hx hb dX6_wrongBy_43 rfl (lv_at hl 2 rfl) ?_
            refine lv_iload_n hx hb dX6_wrongBy_44 rfl (lv_at hl 0 rfl) ?_
            refine lv_iload_n hx hb dX6_wrongBy_45 rfl (lv_at hl 3 rfl) ?_
            refine k_V1 (v := .int (mD (md 0) (nI k) v)) hc [.int (nI k), .int v] cw_X6_125 rfl dX6_wrongBy_46 (c_X6_drawn l hlf g _ q (up2 md 7 19 0) (nI k) v hW (by first | assumption | decide) (by first | assumption | decide)) hW.o hM hS hl.1 rfl rfl ⟨Nat.le_of_ble_eq_true rfl, Nat.le_of_ble_eq_true rfl⟩ ⟨Nat.le_of_ble_eq_true rfl, Nat.le_of_ble_eq_true rfl⟩ (Nat.le_of_ble_eq_true rfl) (fun H locs hM hS => ?_)
            refine lv_aload_n hx hb dX6_wrongBy_49 rfl (lv_at hl 2 rfl) ?_
            refine gt_X6_9 hc dX6_wrongBy_50 hM hW.o rfl ?_
            refine lv_bipush (v := 9) hx hb dX6_wrongBy_53 (by decide) ?_
            refine lv_iload_n hx hb dX6_wrongBy_55 rfl (lv_at hl 0 rfl) ?_
            refine lv_iadd hx hb dX6_wrongBy_56 ?_
            refine k_iald hc hM (show (putD g M q (up2 md 7 19 0)) (q + 1) = some (.inl (gI g, 81, .inl (md 0))) from (hW.ar 0 (by decide) (by decide) rfl rfl)) (inS (by assumption)) dX6_wrongBy_57 ?_
            refine lv_isub hx hb dX6_wrongBy_58 ?_
            refine k_abs hc q_X6_94 dX6_wrongBy_59 hl.1 ⟨Nat.le_of_ble_eq_true rfl, Nat.le_of_ble_eq_true rfl, Nat.le_of_ble_eq_true rfl, Nat.le_of_ble_eq_true rfl⟩ ?_
            refine lv_iadd hx hb dX6_wrongBy_62 ?_
            refine lv_istore_n (lv' := [(2, .int ((itr (wbM (md 0) v) 0 k) + (absI ((mD (md 0) (nI k) v) - ((md 0) (9 + (nI k)).toNatClampNeg))))), (3, .int (nI k)), (0, .ref q), (1, .int v)]) hx hb dX6_wrongBy_63 rfl hl (by decide) rfl (fun ls hl => ?_)
            refine lv_iinc (v := (nI (k + 1))) (lv' := [(3, .int (nI (k + 1))), (2, .int ((itr (wbM (md 0) v) 0 k) + (absI ((mD (md 0) (nI k) v) - ((md 0) (9 + (nI k)).toNatClampNeg))))), (0, .ref q), (1, .int v)]) hx hb dX6_wrongBy_64 hl (k := 1) rfl (k_inc1 _) (by decide) rfl (fun ls hl => ?_)
            refine lv_goto (tgt := 23) hx hb dX6_wrongBy_67 (by decide) ?_
            have z_2 : ((itr (wbM (md 0) v) 0 k) + (absI ((mD (md 0) (nI k) v) - ((md 0) (9 + (nI k)).toNatClampNeg)))) = (itr (wbM (md 0) v) 0 (k + 1)) := (by rw [itr_s]; simp only [wbM, eq_true c_10, eq_false c_30, eq_false c_39, not_false_eq_true, not_true_eq_false, and_true, true_and, and_false, false_and, and_self, ↓reduceIte, or_true, true_or, or_self, or_false, false_or]; try rfl)
            have hl := lv_chg (lv_sub hl [1, 0, 2, 3] rfl) z_2
            exact ih_23 (k + 1) (by omega) (by omega) ls _ _ hM hS (lv_sub hl [1, 0, 2, 3] rfl)
    have z_3 : 0 = (nI 0) := rfl
    have hl := lv_chg (lv_sub hl [0, 1, 2, 3] rfl) z_3
    have z_2 : 0 = (itr (wbM (md 0) v) 0 0) := rfl
    have hl := lv_chg (lv_sub hl [1, 0, 2, 3] rfl) z_2
    exact lp_23 ((md 0 2).toNatClampNeg + 1) 0 (by omega) (by omega) ls _ _ hM hS (lv_sub hl [1, 0, 2, 3] rfl)
  · skip
    have c_10 := bI_eq.mp c_10
    refine lv_aload_n hx hb dX6_wrongBy_13 rfl (lv_at hl 0 rfl) ?_
    refine lv_iconst (v := 1) hx hb dX6_wrongBy_14 (by decide) ?_
    refine k_V1 (v := .int 0) hc [.int 1] cw_X6_61 rfl dX6_wrongBy_15 (c_X6_raises l hlf g _ q (up2 md 7 19 0) 1 hW) hW.o hM hS hl.1 rfl rfl ⟨Nat.le_of_ble_eq_true rfl, Nat.le_of_ble_eq_true rfl⟩ ⟨Nat.le_of_ble_eq_true rfl, Nat.le_of_ble_eq_true rfl⟩ (Nat.le_of_ble_eq_true rfl) (fun H locs hM hS => ?_)
    have hM := hR.eq hM putD_putD
    have hW := MdAt.put (g := g) (M := M) (m := q) (md := (up2 (up2 md 7 19 0) 7 19 1))
    exact k_iret hc hr dX6_wrongBy_18 hM hS (Nat.le_of_ble_eq_true rfl) (Nat.le_of_ble_eq_true rfl) (by first | (simp only [eq_self, eq_false c_10, eq_self, bM_l, bM_r, rsM_l, rsM_r, seV_l, seV_r, snE_l, snE_r, up1_at, up1_up1, up2_up2, not_false_eq_true, not_true_eq_false, and_true, true_and, and_false, false_and, and_self, ↓reduceIte, or_true, true_or, or_self, or_false, false_or]; done) | (simp only [eq_self, eq_false c_10, eq_self, bM_l, bM_r, rsM_l, rsM_r, seV_l, seV_r, snE_l, snE_r, up1_at, up1_up1, up2_up2, not_false_eq_true, not_true_eq_false, and_true, true_and, and_false, false_and, and_self, ↓reduceIte, or_true, true_or, or_self, or_false, false_or]; rfl))
set_option maxHeartbeats 4000000 in
set_option maxRecDepth 100000 in
theorem c_X6_seems (l : Launch) (hlf : l.stackTraces = false) (g : GC) (M : HM) (q : Nat) (md : FL) (v : Int32) (w : Int32) (hW : MdAt g M q md) (hI : mOk (md 0)) : KM g l yX6_seems cX6_seems 3 (some .int) 7 0 0 [.ref q, .int v, .int w] M (.inl (some (.int (if inB v 0 (md 0 2 - 1) ∧ inB w 0 (md 0 3 - 1) then seM (md 0) v w else 0)), (putD g M q (up2 md 7 19 (if inB v 0 (md 0 2 - 1) ∧ inB w 0 (md 0 3 - 1) then 0 else 1))))) := by
  refine k_meth hlf (by decide) (Nat.le_of_ble_eq_true rfl) fun p e s m below meth c ls hc hr hnx hM hS hl => ?_
  have hc : Cx g p l s m [.ref q, .int v, .int w].toArray meth c cX6_seems 3 RX6 := hc
  have hx := hc.1
  have hb := hc.2.1
  have hl : lv_has ls 3 [(0, .ref q), (1, .int v), (2, .int w)] := hl
  refine lv_aload_n hx hb dX6_seems_0 rfl (lv_at hl 0 rfl) ?_
  refine lv_iconst (v := 0) hx hb dX6_seems_1 (by decide) ?_
  refine pt_X6_36 hc dX6_seems_2 hM hS hW.o rfl rfl (Nat.le_of_ble_eq_true rfl) (fun H locs hM hS => ?_)
  have hM := hR.eq hM (putD_sc hW 19 (v := 0) md_s19)
  have hW := MdAt.put (g := g) (M := M) (m := q) (md := (up2 md 7 19 0))
  refine lv_aload_n hx hb dX6_seems_5 rfl (lv_at hl 0 rfl) ?_
  refine lv_iload_n hx hb dX6_seems_6 rfl (lv_at hl 1 rfl) ?_
  refine k_V1 (v := .int (bI (inB v 0 ((md 0) 2 - 1)))) hc [.int v] cw_X6_103 rfl dX6_seems_7 (c_X6_isStake l hlf g _ q (up2 md 7 19 0) v hW) hW.o hM hS hl.1 rfl rfl ⟨Nat.le_of_ble_eq_true rfl, Nat.le_of_ble_eq_true rfl⟩ ⟨Nat.le_of_ble_eq_true rfl, Nat.le_of_ble_eq_true rfl⟩ (Nat.le_of_ble_eq_true rfl) (fun H locs hM hS => ?_)
  refine lv_if_eq (tgt := 30) hx hb dX6_seems_10 (by decide) (fun c_10 => ?_) (fun c_10 => ?_)
  · skip
    have c_10 := bI_eq.mp c_10
    refine lv_aload_n hx hb dX6_seems_30 rfl (lv_at hl 0 rfl) ?_
    refine lv_iconst (v := 1) hx hb dX6_seems_31 (by decide) ?_
    refine k_V1 (v := .int 0) hc [.int 1] cw_X6_61 rfl dX6_seems_32 (c_X6_raises l hlf g _ q (up2 md 7 19 0) 1 hW) hW.o hM hS hl.1 rfl rfl ⟨Nat.le_of_ble_eq_true rfl, Nat.le_of_ble_eq_true rfl⟩ ⟨Nat.le_of_ble_eq_true rfl, Nat.le_of_ble_eq_true rfl⟩ (Nat.le_of_ble_eq_true rfl) (fun H locs hM hS => ?_)
    have hM := hR.eq hM putD_putD
    have hW := MdAt.put (g := g) (M := M) (m := q) (md := (up2 (up2 md 7 19 0) 7 19 1))
    exact k_iret hc hr dX6_seems_35 hM hS (Nat.le_of_ble_eq_true rfl) (Nat.le_of_ble_eq_true rfl) (by first | (simp only [eq_self, eq_false c_10, eq_self, bM_l, bM_r, rsM_l, rsM_r, seV_l, seV_r, snE_l, snE_r, up1_at, up1_up1, up2_up2, not_false_eq_true, not_true_eq_false, and_true, true_and, and_false, false_and, and_self, ↓reduceIte, or_true, true_or, or_self, or_false, false_or]; done) | (simp only [eq_self, eq_false c_10, eq_self, bM_l, bM_r, rsM_l, rsM_r, seV_l, seV_r, snE_l, snE_r, up1_at, up1_up1, up2_up2, not_false_eq_true, not_true_eq_false, and_true, true_and, and_false, false_and, and_self, ↓reduceIte, or_true, true_or, or_self, or_false, false_or]; rfl))
  · skip
    have c_10 := bI_ne.mp c_10
    have ok_10 := isS_ok (f := md 0) hI c_10
    refine lv_aload_n hx hb dX6_seems_13 rfl (lv_at hl 0 rfl) ?_
    refine lv_iload_n hx hb dX6_seems_14 rfl (lv_at hl 2 rfl) ?_
    refine k_V1 (v := .int (bI (inB w 0 ((md 0) 3 - 1)))) hc [.int w] cw_X6_107 rfl dX6_seems_15 (c_X6_isPost l hlf g _ q (up2 md 7 19 0) w hW) hW.o hM hS hl.1 rfl rfl ⟨Nat.le_of_ble_eq_true rfl, Nat.le_of_ble_eq_true rfl⟩ ⟨Nat.le_of_ble_eq_true rfl, Nat.le_of_ble_eq_true rfl⟩ (Nat.le_of_ble_eq_true rfl) (fun H locs hM hS => ?_)
    refine lv_if_eq (tgt := 30) hx hb dX6_seems_18 (by decide) (fun c_18 => ?_) (fun c_18 => ?_)
    · skip
      have c_18 := bI_eq.mp c_18
      refine lv_aload_n hx hb dX6_seems_30 rfl (lv_at hl 0 rfl) ?_
      refine lv_iconst (v := 1) hx hb dX6_seems_31 (by decide) ?_
      refine k_V1 (v := .int 0) hc [.int 1] cw_X6_61 rfl dX6_seems_32 (c_X6_raises l hlf g _ q (up2 md 7 19 0) 1 hW) hW.o hM hS hl.1 rfl rfl ⟨Nat.le_of_ble_eq_true rfl, Nat.le_of_ble_eq_true rfl⟩ ⟨Nat.le_of_ble_eq_true rfl, Nat.le_of_ble_eq_true rfl⟩ (Nat.le_of_ble_eq_true rfl) (fun H locs hM hS => ?_)
      have hM := hR.eq hM putD_putD
      have hW := MdAt.put (g := g) (M := M) (m := q) (md := (up2 (up2 md 7 19 0) 7 19 1))
      exact k_iret hc hr dX6_seems_35 hM hS (Nat.le_of_ble_eq_true rfl) (Nat.le_of_ble_eq_true rfl) (by first | (simp only [eq_self, eq_true c_10, eq_false c_18, eq_self, bM_l, bM_r, rsM_l, rsM_r, seV_l, seV_r, snE_l, snE_r, up1_at, up1_up1, up2_up2, not_false_eq_true, not_true_eq_false, and_true, true_and, and_false, false_and, and_self, ↓reduceIte, or_true, true_or, or_self, or_false, false_or]; done) | (simp only [eq_self, eq_true c_10, eq_false c_18, eq_self, bM_l, bM_r, rsM_l, rsM_r, seV_l, seV_r, snE_l, snE_r, up1_at, up1_up1, up2_up2, not_false_eq_true, not_true_eq_false, and_true, true_and, and_false, false_and, and_self, ↓reduceIte, or_true, true_or, or_self, or_false, false_or]; rfl))
    · skip
      have c_18 := bI_ne.mp c_18
      have ok_18 := isP_ok (f := md 0) hI c_18
      refine lv_aload_n hx hb dX6_seems_21 rfl (lv_at hl 0 rfl) ?_
      refine lv_iload_n hx hb dX6_seems_22 rfl (lv_at hl 1 rfl) ?_
      refine lv_iload_n hx hb dX6_seems_23 rfl (lv_at hl 2 rfl) ?_
      refine k_V1 (v := .int (seM (md 0) v w)) hc [.int v, .int w] cw_X6_116 rfl dX6_seems_24 (c_X6_seemsFrom l hlf g _ q (up2 md 7 19 0) v w hW (by first | assumption | decide) (by first | assumption | decide)) hW.o hM hS hl.1 rfl rfl ⟨Nat.le_of_ble_eq_true rfl, Nat.le_of_ble_eq_true rfl⟩ ⟨Nat.le_of_ble_eq_true rfl, Nat.le_of_ble_eq_true rfl⟩ (Nat.le_of_ble_eq_true rfl) (fun H locs hM hS => ?_)
      refine lv_goto (tgt := 35) hx hb dX6_seems_27 (by decide) ?_
      exact k_iret hc hr dX6_seems_35 hM hS (Nat.le_of_ble_eq_true rfl) (Nat.le_of_ble_eq_true rfl) (by first | (simp only [eq_self, eq_true c_10, eq_true c_18, eq_self, bM_l, bM_r, rsM_l, rsM_r, seV_l, seV_r, snE_l, snE_r, up1_at, up1_up1, up2_up2, not_false_eq_true, not_true_eq_false, and_true, true_and, and_false, false_and, and_self, ↓reduceIte, or_true, true_or, or_self, or_false, false_or]; done) | (simp only [eq_self, eq_true c_10, eq_true c_18, eq_self, bM_l, bM_r, rsM_l, rsM_r, seV_l, seV_r, snE_l, snE_r, up1_at, up1_up1, up2_up2, not_false_eq_true, not_true_eq_false, and_true, true_and, and_false, false_and, and_self, ↓reduceIte, or_true, true_or, or_self, or_false, false_or]; rfl))
set_option maxHeartbeats 4000000 in
set_option maxRecDepth 100000 in
theorem c_X6_seemsAgain (l : Launch) (hlf : l.stackTraces = false) (g : GC) (M : HM) (q : Nat) (md : FL) (v : Int32) (w : Int32) (hW : MdAt g M q md) (hI : mOk (md 0)) : KM g l yX6_seemsAgain cX6_seemsAgain 3 (some .int) 8 0 0 [.ref q, .int v, .int w] M (.inl (some (.int (if inB v 0 (md 0 2 - 1) ∧ inB w 0 (md 0 3 - 1) then seM (md 0) v w else 0)), (putD g M q (up2 md 7 19 (if inB v 0 (md 0 2 - 1) ∧ inB w 0 (md 0 3 - 1) then 0 else 1))))) := by
  refine k_meth hlf (by decide) (Nat.le_of_ble_eq_true rfl) fun p e s m below meth c ls hc hr hnx hM hS hl => ?_
  have hc : Cx g p l s m [.ref q, .int v, .int w].toArray meth c cX6_seemsAgain 3 RX6 := hc
  have hx := hc.1
  have hb := hc.2.1
  have hl : lv_has ls 3 [(0, .ref q), (1, .int v), (2, .int w)] := hl
  refine lv_aload_n hx hb dX6_seemsAgain_0 rfl (lv_at hl 0 rfl) ?_
  refine lv_iload_n hx hb dX6_seemsAgain_1 rfl (lv_at hl 1 rfl) ?_
  refine lv_iload_n hx hb dX6_seemsAgain_2 rfl (lv_at hl 2 rfl) ?_
  refine k_V1 hc [.int v, .int w] cw_X6_160 rfl dX6_seemsAgain_3 (c_X6_seems l hlf g _ q md v w hW (by first | assumption | exact hI)) hW.o hM hS hl.1 rfl rfl ⟨Nat.le_of_ble_eq_true rfl, Nat.le_of_ble_eq_true rfl⟩ ⟨Nat.le_of_ble_eq_true rfl, Nat.le_of_ble_eq_true rfl⟩ (Nat.le_of_ble_eq_true rfl) (fun H locs hM hS => ?_)
  have hW := MdAt.put (g := g) (M := M) (m := q) (md := (up2 md 7 19 (if inB v 0 (md 0 2 - 1) ∧ inB w 0 (md 0 3 - 1) then 0 else 1)))
  exact k_iret hc hr dX6_seemsAgain_6 hM hS (Nat.le_of_ble_eq_true rfl) (Nat.le_of_ble_eq_true rfl) (by rfl)
set_option maxHeartbeats 4000000 in
set_option maxRecDepth 100000 in
theorem c_X6_shimmers (l : Launch) (hlf : l.stackTraces = false) (g : GC) (M : HM) (q : Nat) (md : FL) (v : Int32) (w : Int32) (hW : MdAt g M q md) (hI : mOk (md 0)) : KM g l yX6_shimmers cX6_shimmers 3 (some .boolean) 7 0 0 [.ref q, .int v, .int w] M (.inl (some (.int (bI ((inB v 0 (md 0 2 - 1) ∧ inB w 0 (md 0 3 - 1)) ∧ shM (md 0) v w (mHb (md 0) 0)))), (putD g M q (up2 md 7 19 (if inB v 0 (md 0 2 - 1) ∧ inB w 0 (md 0 3 - 1) then 0 else 1))))) := by
  refine k_meth hlf (by decide) (Nat.le_of_ble_eq_true rfl) fun p e s m below meth c ls hc hr hnx hM hS hl => ?_
  have hc : Cx g p l s m [.ref q, .int v, .int w].toArray meth c cX6_shimmers 3 RX6 := hc
  have hx := hc.1
  have hb := hc.2.1
  have hl : lv_has ls 3 [(0, .ref q), (1, .int v), (2, .int w)] := hl
  refine lv_aload_n hx hb dX6_shimmers_0 rfl (lv_at hl 0 rfl) ?_
  refine lv_aload_n hx hb dX6_shimmers_1 rfl (lv_at hl 0 rfl) ?_
  refine lv_iload_n hx hb dX6_shimmers_2 rfl (lv_at hl 1 rfl) ?_
  refine k_V1 (v := .int (bI (inB v 0 ((md 0) 2 - 1)))) hc [.int v] cw_X6_103 rfl dX6_shimmers_3 (c_X6_isStake l hlf g _ q md v hW) hW.o hM hS hl.1 rfl rfl ⟨Nat.le_of_ble_eq_true rfl, Nat.le_of_ble_eq_true rfl⟩ ⟨Nat.le_of_ble_eq_true rfl, Nat.le_of_ble_eq_true rfl⟩ (Nat.le_of_ble_eq_true rfl) (fun H locs hM hS => ?_)
  refine lv_if_eq (tgt := 21) hx hb dX6_shimmers_6 (by decide) (fun c_6 => ?_) (fun c_6 => ?_)
  · skip
    have c_6 := bI_eq.mp c_6
    refine lv_iconst (v := 1) hx hb dX6_shimmers_21 (by decide) ?_
    refine pt_X6_36 hc dX6_shimmers_22 hM hS hW.o rfl rfl (Nat.le_of_ble_eq_true rfl) (fun H locs hM hS => ?_)
    have hM := hR.eq hM (putD_sc hW 19 (v := 1) md_s19)
    have hW := MdAt.put (g := g) (M := M) (m := q) (md := (up2 md 7 19 1))
    refine lv_aload_n hx hb dX6_shimmers_25 rfl (lv_at hl 0 rfl) ?_
    refine gt_X6_36 hc dX6_shimmers_26 hM hW.o (v := .int 1) rfl ?_
    refine lv_if_ne (tgt := 50) hx hb dX6_shimmers_29 (by decide) (fun c_29 => ?_) (fun c_29 => ?_)
    · skip
      refine lv_iconst (v := 0) hx hb dX6_shimmers_50 (by decide) ?_
      exact k_zret hc hr dX6_shimmers_51 hM hS (by first | rfl | exact bI_n) (Nat.le_of_ble_eq_true rfl) (Nat.le_of_ble_eq_true rfl) (by first | (simp only [bI, eq_false c_6, eq_false c_29, eq_self, bM_l, bM_r, rsM_l, rsM_r, seV_l, seV_r, snE_l, snE_r, up1_at, up1_up1, up2_up2, not_false_eq_true, not_true_eq_false, and_true, true_and, and_false, false_and, and_self, ↓reduceIte, or_true, true_or, or_self, or_false, false_or]; done) | (simp only [bI, eq_false c_6, eq_false c_29, eq_self, bM_l, bM_r, rsM_l, rsM_r, seV_l, seV_r, snE_l, snE_r, up1_at, up1_up1, up2_up2, not_false_eq_true, not_true_eq_false, and_true, true_and, and_false, false_and, and_self, ↓reduceIte, or_true, true_or, or_self, or_false, false_or]; rfl))
    · skip
      exact absurd c_29 (by decide)
  · skip
    have c_6 := bI_ne.mp c_6
    have ok_6 := isS_ok (f := md 0) hI c_6
    refine lv_aload_n hx hb dX6_shimmers_9 rfl (lv_at hl 0 rfl) ?_
    refine lv_iload_n hx hb dX6_shimmers_10 rfl (lv_at hl 2 rfl) ?_
    refine k_V1 (v := .int (bI (inB w 0 ((md 0) 3 - 1)))) hc [.int w] cw_X6_107 rfl dX6_shimmers_11 (c_X6_isPost l hlf g _ q md w hW) hW.o hM hS hl.1 rfl rfl ⟨Nat.le_of_ble_eq_true rfl, Nat.le_of_ble_eq_true rfl⟩ ⟨Nat.le_of_ble_eq_true rfl, Nat.le_of_ble_eq_true rfl⟩ (Nat.le_of_ble_eq_true rfl) (fun H locs hM hS => ?_)
    refine lv_if_eq (tgt := 21) hx hb dX6_shimmers_14 (by decide) (fun c_14 => ?_) (fun c_14 => ?_)
    · skip
      have c_14 := bI_eq.mp c_14
      refine lv_iconst (v := 1) hx hb dX6_shimmers_21 (by decide) ?_
      refine pt_X6_36 hc dX6_shimmers_22 hM hS hW.o rfl rfl (Nat.le_of_ble_eq_true rfl) (fun H locs hM hS => ?_)
      have hM := hR.eq hM (putD_sc hW 19 (v := 1) md_s19)
      have hW := MdAt.put (g := g) (M := M) (m := q) (md := (up2 md 7 19 1))
      refine lv_aload_n hx hb dX6_shimmers_25 rfl (lv_at hl 0 rfl) ?_
      refine gt_X6_36 hc dX6_shimmers_26 hM hW.o (v := .int 1) rfl ?_
      refine lv_if_ne (tgt := 50) hx hb dX6_shimmers_29 (by decide) (fun c_29 => ?_) (fun c_29 => ?_)
      · skip
        refine lv_iconst (v := 0) hx hb dX6_shimmers_50 (by decide) ?_
        exact k_zret hc hr dX6_shimmers_51 hM hS (by first | rfl | exact bI_n) (Nat.le_of_ble_eq_true rfl) (Nat.le_of_ble_eq_true rfl) (by first | (simp only [bI, eq_true c_6, eq_false c_14, eq_false c_29, eq_self, bM_l, bM_r, rsM_l, rsM_r, seV_l, seV_r, snE_l, snE_r, up1_at, up1_up1, up2_up2, not_false_eq_true, not_true_eq_false, and_true, true_and, and_false, false_and, and_self, ↓reduceIte, or_true, true_or, or_self, or_false, false_or]; done) | (simp only [bI, eq_true c_6, eq_false c_14, eq_false c_29, eq_self, bM_l, bM_r, rsM_l, rsM_r, seV_l, seV_r, snE_l, snE_r, up1_at, up1_up1, up2_up2, not_false_eq_true, not_true_eq_false, and_true, true_and, and_false, false_and, and_self, ↓reduceIte, or_true, true_or, or_self, or_false, false_or]; rfl))
      · skip
        exact absurd c_29 (by decide)
    · skip
      have c_14 := bI_ne.mp c_14
      have ok_14 := isP_ok (f := md 0) hI c_14
      refine lv_iconst (v := 0) hx hb dX6_shimmers_17 (by decide) ?_
      refine lv_goto (tgt := 22) hx hb dX6_shimmers_18 (by decide) ?_
      refine pt_X6_36 hc dX6_shimmers_22 hM hS hW.o rfl rfl (Nat.le_of_ble_eq_true rfl) (fun H locs hM hS => ?_)
      have hM := hR.eq hM (putD_sc hW 19 (v := 0) md_s19)
      have hW := MdAt.put (g := g) (M := M) (m := q) (md := (up2 md 7 19 0))
      refine lv_aload_n hx hb dX6_shimmers_25 rfl (lv_at hl 0 rfl) ?_
      refine gt_X6_36 hc dX6_shimmers_26 hM hW.o (v := .int 0) rfl ?_
      refine lv_if_ne (tgt := 50) hx hb dX6_shimmers_29 (by decide) (fun c_29 => ?_) (fun c_29 => ?_)
      · skip
        exact absurd c_29 (by decide)
      · skip
        refine lv_aload_n hx hb dX6_shimmers_32 rfl (lv_at hl 0 rfl) ?_
        refine lv_iload_n hx hb dX6_shimmers_33 rfl (lv_at hl 1 rfl) ?_
        refine lv_iload_n hx hb dX6_shimmers_34 rfl (lv_at hl 2 rfl) ?_
        refine lv_aload_n hx hb dX6_shimmers_35 rfl (lv_at hl 0 rfl) ?_
        refine lv_iconst (v := 0) hx hb dX6_shimmers_36 (by decide) ?_
        refine k_V1 (v := .int (mHb (md 0) 0)) hc [.int 0] cw_X6_88 rfl dX6_shimmers_37 (c_X6_heatBehind l hlf g _ q (up2 md 7 19 0) 0 hW) hW.o hM hS hl.1 rfl rfl ⟨Nat.le_of_ble_eq_true rfl, Nat.le_of_ble_eq_true rfl⟩ ⟨Nat.le_of_ble_eq_true rfl, Nat.le_of_ble_eq_true rfl⟩ (Nat.le_of_ble_eq_true rfl) (fun H locs hM hS => ?_)
        refine k_V1 (v := .int (bI (shM (md 0) v w (mHb (md 0) 0)))) hc [.int v, .int w, .int (mHb (md 0) 0)] cw_X6_113 rfl dX6_shimmers_40 (c_X6_shimmersBy l hlf g _ q (up2 md 7 19 0) v w (mHb (md 0) 0) hW (by first | assumption | decide) (by first | assumption | decide)) hW.o hM hS hl.1 rfl rfl ⟨Nat.le_of_ble_eq_true rfl, Nat.le_of_ble_eq_true rfl⟩ ⟨Nat.le_of_ble_eq_true rfl, Nat.le_of_ble_eq_true rfl⟩ (Nat.le_of_ble_eq_true rfl) (fun H locs hM hS => ?_)
        refine lv_if_eq (tgt := 50) hx hb dX6_shimmers_43 (by decide) (fun c_43 => ?_) (fun c_43 => ?_)
        · skip
          have c_43 := bI_eq.mp c_43
          refine lv_iconst (v := 0) hx hb dX6_shimmers_50 (by decide) ?_
          exact k_zret hc hr dX6_shimmers_51 hM hS (by first | rfl | exact bI_n) (Nat.le_of_ble_eq_true rfl) (Nat.le_of_ble_eq_true rfl) (by first | (simp only [bI, eq_true c_6, eq_true c_14, eq_true c_29, eq_false c_43, eq_self, bM_l, bM_r, rsM_l, rsM_r, seV_l, seV_r, snE_l, snE_r, up1_at, up1_up1, up2_up2, not_false_eq_true, not_true_eq_false, and_true, true_and, and_false, false_and, and_self, ↓reduceIte, or_true, true_or, or_self, or_false, false_or]; done) | (simp only [bI, eq_true c_6, eq_true c_14, eq_true c_29, eq_false c_43, eq_self, bM_l, bM_r, rsM_l, rsM_r, seV_l, seV_r, snE_l, snE_r, up1_at, up1_up1, up2_up2, not_false_eq_true, not_true_eq_false, and_true, true_and, and_false, false_and, and_self, ↓reduceIte, or_true, true_or, or_self, or_false, false_or]; rfl))
        · skip
          have c_43 := bI_ne.mp c_43
          refine lv_iconst (v := 1) hx hb dX6_shimmers_46 (by decide) ?_
          refine lv_goto (tgt := 51) hx hb dX6_shimmers_47 (by decide) ?_
          exact k_zret hc hr dX6_shimmers_51 hM hS (by first | rfl | exact bI_n) (Nat.le_of_ble_eq_true rfl) (Nat.le_of_ble_eq_true rfl) (by first | (simp only [bI, eq_true c_6, eq_true c_14, eq_true c_29, eq_true c_43, eq_self, bM_l, bM_r, rsM_l, rsM_r, seV_l, seV_r, snE_l, snE_r, up1_at, up1_up1, up2_up2, not_false_eq_true, not_true_eq_false, and_true, true_and, and_false, false_and, and_self, ↓reduceIte, or_true, true_or, or_self, or_false, false_or]; done) | (simp only [bI, eq_true c_6, eq_true c_14, eq_true c_29, eq_true c_43, eq_self, bM_l, bM_r, rsM_l, rsM_r, seV_l, seV_r, snE_l, snE_r, up1_at, up1_up1, up2_up2, not_false_eq_true, not_true_eq_false, and_true, true_and, and_false, false_and, and_self, ↓reduceIte, or_true, true_or, or_self, or_false, false_or]; rfl))
set_option maxHeartbeats 4000000 in
set_option maxRecDepth 100000 in
theorem c_X6_bestPost (l : Launch) (hlf : l.stackTraces = false) (g : GC) (M : HM) (q : Nat) (md : FL) (v : Int32) (hW : MdAt g M q md) (hI : mOk (md 0)) : KM g l yX6_bestPost cX6_bestPost 6 (some .int) 7 0 0 [.ref q, .int v] M (.inl (some (.int (if inB v 0 (md 0 2 - 1) then (if 0 ≤ (itr (bpM (md 0) v) (-1, 0) (md 0 3).toNatClampNeg).1 then (itr (bpM (md 0) v) (-1, 0) (md 0 3).toNatClampNeg).1 else 0) else 0)), (putD g M q (up2 md 7 19 (if inB v 0 (md 0 2 - 1) then (if 0 ≤ (itr (bpM (md 0) v) (-1, 0) (md 0 3).toNatClampNeg).1 then 0 else 2) else 1))))) := by
  refine k_meth hlf (by decide) (Nat.le_of_ble_eq_true rfl) fun p e s m below meth c ls hc hr hnx hM hS hl => ?_
  have hc : Cx g p l s m [.ref q, .int v].toArray meth c cX6_bestPost 6 RX6 := hc
  have hx := hc.1
  have hb := hc.2.1
  have hl : lv_has ls 6 [(0, .ref q), (1, .int v)] := hl
  refine lv_aload_n hx hb dX6_bestPost_0 rfl (lv_at hl 0 rfl) ?_
  refine lv_iconst (v := 0) hx hb dX6_bestPost_1 (by decide) ?_
  refine pt_X6_36 hc dX6_bestPost_2 hM hS hW.o rfl rfl (Nat.le_of_ble_eq_true rfl) (fun H locs hM hS => ?_)
  have hM := hR.eq hM (putD_sc hW 19 (v := 0) md_s19)
  have hW := MdAt.put (g := g) (M := M) (m := q) (md := (up2 md 7 19 0))
  refine lv_aload_n hx hb dX6_bestPost_5 rfl (lv_at hl 0 rfl) ?_
  refine lv_iload_n hx hb dX6_bestPost_6 rfl (lv_at hl 1 rfl) ?_
  refine k_V1 (v := .int (bI (inB v 0 ((md 0) 2 - 1)))) hc [.int v] cw_X6_103 rfl dX6_bestPost_7 (c_X6_isStake l hlf g _ q (up2 md 7 19 0) v hW) hW.o hM hS hl.1 rfl rfl ⟨Nat.le_of_ble_eq_true rfl, Nat.le_of_ble_eq_true rfl⟩ ⟨Nat.le_of_ble_eq_true rfl, Nat.le_of_ble_eq_true rfl⟩ (Nat.le_of_ble_eq_true rfl) (fun H locs hM hS => ?_)
  refine lv_if_ne (tgt := 19) hx hb dX6_bestPost_10 (by decide) (fun c_10 => ?_) (fun c_10 => ?_)
  · skip
    have c_10 := bI_ne.mp c_10
    have ok_10 := isS_ok (f := md 0) hI c_10
    refine lv_iconst (v := (-1)) hx hb dX6_bestPost_19 (by decide) ?_
    refine lv_istore_n (lv' := [(2, .int (-1)), (0, .ref q), (1, .int v)]) hx hb dX6_bestPost_20 rfl hl (by decide) rfl (fun ls hl => ?_)
    refine lv_iconst (v := 0) hx hb dX6_bestPost_21 (by decide) ?_
    refine lv_istore_n (lv' := [(3, .int 0), (2, .int (-1)), (0, .ref q), (1, .int v)]) hx hb dX6_bestPost_22 rfl hl (by decide) rfl (fun ls hl => ?_)
    refine lv_iconst (v := 0) hx hb dX6_bestPost_23 (by decide) ?_
    refine lv_istore (lv' := [(4, .int 0), (3, .int 0), (2, .int (-1)), (0, .ref q), (1, .int v)]) hx hb dX6_bestPost_24 hl (by decide) rfl (fun ls hl => ?_)
    have lp_26 : ∀ (D k : Nat), ((md 0 3).toNatClampNeg) - k < D → k ≤ (md 0 3).toNatClampNeg → ∀ (ls : Array Slot) (H : Heap) (locs : List Loc), hR g (putD g M q (up2 md 7 19 0)) H → va_S (gA g) s.heap H locs → lv_has ls 6 [(4, .int (nI k)), (3, .int (itr (bpM (md 0) v) (-1, 0) k).2), (2, .int (itr (bpM (md 0) v) (-1, 0) k).1), (0, .ref q), (1, .int v)] → W p l e (rmOf 7 0 0) s m [.ref q, .int v].toArray below meth c H locs 0 0 (vx_MQ below (KQ g (.inl (some (.int (if inB v 0 (md 0 2 - 1) then (if 0 ≤ (itr (bpM (md 0) v) (-1, 0) (md 0 3).toNatClampNeg).1 then (itr (bpM (md 0) v) (-1, 0) (md 0 3).toNatClampNeg).1 else 0) else 0)), (putD g M q (up2 md 7 19 (if inB v 0 (md 0 2 - 1) then (if 0 ≤ (itr (bpM (md 0) v) (-1, 0) (md 0 3).toNatClampNeg).1 then 0 else 2) else 1)))))) (KX g (.inl (some (.int (if inB v 0 (md 0 2 - 1) then (if 0 ≤ (itr (bpM (md 0) v) (-1, 0) (md 0 3).toNatClampNeg).1 then (itr (bpM (md 0) v) (-1, 0) (md 0 3).toNatClampNeg).1 else 0) else 0)), (putD g M q (up2 md 7 19 (if inB v 0 (md 0 2 - 1) then (if 0 ≤ (itr (bpM (md 0) v) (-1, 0) (md 0 3).toNatClampNeg).1 then 0 else 2) else 1)))))) [.ref q, .int v].toArray s 0 0 (gA g)) (F0 m 26 ls []) := by
      intro D
      induction D with
      | zero => intro k hD; exact absurd hD (Nat.not_lt_zero _)
      | succ D ih_26 =>
        intro k hD hk ls H locs hM hS hl
        refine lv_iload hx hb dX6_bestPost_26 (lv_at hl 0 rfl) ?_
        refine lv_aload_n hx hb dX6_bestPost_28 rfl (lv_at hl 3 rfl) ?_
        refine gt_X6_9 hc dX6_bestPost_29 hM hW.o rfl ?_
        refine lv_iconst (v := 3) hx hb dX6_bestPost_32 (by decide) ?_
        refine k_ialdN hc hM (n := 81) (show (putD g M q (up2 md 7 19 0)) (q + 1) = some (.inl (gI g, 81, .inl (md 0))) from (hW.ar 0 (by decide) (by decide) rfl rfl)) (X := 3) rfl (by omega) (by decide) dX6_bestPost_33 ?_
        refine lv_icmp_ge (tgt := 124) hx hb dX6_bestPost_34 (by decide) (fun c_34 => ?_) (fun c_34 => ?_)
        · skip
          have c_34 : (md 0 3).toNatClampNeg ≤ k := (k_le (by have := k_clamp_lt (md 0 3); omega)).mp c_34
          have hk5 : k = (md 0 3).toNatClampNeg := by omega
          have z_2 : (itr (bpM (md 0) v) (-1, 0) k).1 = (itr (bpM (md 0) v) (-1, 0) (md 0 3).toNatClampNeg).1 := (by rw [hk5])
          have hl := lv_chg (lv_sub hl [2, 0, 1, 3, 4] rfl) z_2
          refine lv_iload_n hx hb dX6_bestPost_124 rfl (lv_at hl 0 rfl) ?_
          refine lv_if_ge (tgt := 136) hx hb dX6_bestPost_125 (by decide) (fun c_125 => ?_) (fun c_125 => ?_)
          · skip
            refine lv_iload_n hx hb dX6_bestPost_136 rfl (lv_at hl 0 rfl) ?_
            exact k_iret hc hr dX6_bestPost_137 hM hS (Nat.le_of_ble_eq_true rfl) (Nat.le_of_ble_eq_true rfl) (by first | (simp only [eq_self, eq_true c_10, eq_true c_34, eq_true c_125, eq_self, bM_l, bM_r, rsM_l, rsM_r, seV_l, seV_r, snE_l, snE_r, up1_at, up1_up1, up2_up2, not_false_eq_true, not_true_eq_false, and_true, true_and, and_false, false_and, and_self, ↓reduceIte, or_true, true_or, or_self, or_false, false_or]; done) | (simp only [eq_self, eq_true c_10, eq_true c_34, eq_true c_125, eq_self, bM_l, bM_r, rsM_l, rsM_r, seV_l, seV_r, snE_l, snE_r, up1_at, up1_up1, up2_up2, not_false_eq_true, not_true_eq_false, and_true, true_and, and_false, false_and, and_self, ↓reduceIte, or_true, true_or, or_self, or_false, false_or]; rfl))
          · skip
            refine lv_aload_n hx hb dX6_bestPost_128 rfl (lv_at hl 3 rfl) ?_
            refine lv_iconst (v := 2) hx hb dX6_bestPost_129 (by decide) ?_
            refine k_V1 (v := .int 0) hc [.int 2] cw_X6_61 rfl dX6_bestPost_130 (c_X6_raises l hlf g _ q (up2 md 7 19 0) 2 hW) hW.o hM hS hl.1 rfl rfl ⟨Nat.le_of_ble_eq_true rfl, Nat.le_of_ble_eq_true rfl⟩ ⟨Nat.le_of_ble_eq_true rfl, Nat.le_of_ble_eq_true rfl⟩ (Nat.le_of_ble_eq_true rfl) (fun H locs hM hS => ?_)
            have hM := hR.eq hM putD_putD
            have hW := MdAt.put (g := g) (M := M) (m := q) (md := (up2 (up2 md 7 19 0) 7 19 2))
            refine lv_goto (tgt := 137) hx hb dX6_bestPost_133 (by decide) ?_
            exact k_iret hc hr dX6_bestPost_137 hM hS (Nat.le_of_ble_eq_true rfl) (Nat.le_of_ble_eq_true rfl) (by first | (simp only [eq_self, eq_true c_10, eq_true c_34, eq_false c_125, eq_self, bM_l, bM_r, rsM_l, rsM_r, seV_l, seV_r, snE_l, snE_r, up1_at, up1_up1, up2_up2, not_false_eq_true, not_true_eq_false, and_true, true_and, and_false, false_and, and_self, ↓reduceIte, or_true, true_or, or_self, or_false, false_or]; done) | (simp only [eq_self, eq_true c_10, eq_true c_34, eq_false c_125, eq_self, bM_l, bM_r, rsM_l, rsM_r, seV_l, seV_r, snE_l, snE_r, up1_at, up1_up1, up2_up2, not_false_eq_true, not_true_eq_false, and_true, true_and, and_false, false_and, and_self, ↓reduceIte, or_true, true_or, or_self, or_false, false_or]; rfl))
        · skip
          have c_34 : ¬ (md 0 3).toNatClampNeg ≤ k := fun h => c_34 ((k_le (by have := k_clamp_lt (md 0 3); omega)).mpr h)
          have ok_34 := kP_ok (f := md 0) hI c_34
          refine lv_aload_n hx hb dX6_bestPost_37 rfl (lv_at hl 3 rfl) ?_
          refine lv_iload_n hx hb dX6_bestPost_38 rfl (lv_at hl 4 rfl) ?_
          refine lv_iload hx hb dX6_bestPost_39 (lv_at hl 0 rfl) ?_
          refine lv_aload_n hx hb dX6_bestPost_41 rfl (lv_at hl 3 rfl) ?_
          refine lv_iconst (v := 0) hx hb dX6_bestPost_42 (by decide) ?_
          refine k_V1 (v := .int (mHb (md 0) 0)) hc [.int 0] cw_X6_88 rfl dX6_bestPost_43 (c_X6_heatBehind l hlf g _ q (up2 md 7 19 0) 0 hW) hW.o hM hS hl.1 rfl rfl ⟨Nat.le_of_ble_eq_true rfl, Nat.le_of_ble_eq_true rfl⟩ ⟨Nat.le_of_ble_eq_true rfl, Nat.le_of_ble_eq_true rfl⟩ (Nat.le_of_ble_eq_true rfl) (fun H locs hM hS => ?_)
          refine k_V1 (v := .int (bI (shM (md 0) v (nI k) (mHb (md 0) 0)))) hc [.int v, .int (nI k), .int (mHb (md 0) 0)] cw_X6_113 rfl dX6_bestPost_46 (c_X6_shimmersBy l hlf g _ q (up2 md 7 19 0) v (nI k) (mHb (md 0) 0) hW (by first | assumption | decide) (by first | assumption | decide)) hW.o hM hS hl.1 rfl rfl ⟨Nat.le_of_ble_eq_true rfl, Nat.le_of_ble_eq_true rfl⟩ ⟨Nat.le_of_ble_eq_true rfl, Nat.le_of_ble_eq_true rfl⟩ (Nat.le_of_ble_eq_true rfl) (fun H locs hM hS => ?_)
          refine lv_if_eq (tgt := 55) hx hb dX6_bestPost_49 (by decide) (fun c_49 => ?_) (fun c_49 => ?_)
          · skip
            have c_49 := bI_eq.mp c_49
            refine lv_aload_n hx hb dX6_bestPost_55 rfl (lv_at hl 3 rfl) ?_
            refine lv_iload_n hx hb dX6_bestPost_56 rfl (lv_at hl 4 rfl) ?_
            refine lv_iload hx hb dX6_bestPost_57 (lv_at hl 0 rfl) ?_
            refine k_V1 (v := .int (seM (md 0) v (nI k))) hc [.int v, .int (nI k)] cw_X6_116 rfl dX6_bestPost_59 (c_X6_seemsFrom l hlf g _ q (up2 md 7 19 0) v (nI k) hW (by first | assumption | decide) (by first | assumption | decide)) hW.o hM hS hl.1 rfl rfl ⟨Nat.le_of_ble_eq_true rfl, Nat.le_of_ble_eq_true rfl⟩ ⟨Nat.le_of_ble_eq_true rfl, Nat.le_of_ble_eq_true rfl⟩ (Nat.le_of_ble_eq_true rfl) (fun H locs hM hS => ?_)
            refine lv_aload_n hx hb dX6_bestPost_62 rfl (lv_at hl 3 rfl) ?_
            refine gt_X6_9 hc dX6_bestPost_63 hM hW.o rfl ?_
            refine lv_bipush (v := 9) hx hb dX6_bestPost_66 (by decide) ?_
            refine lv_iload_n hx hb dX6_bestPost_68 rfl (lv_at hl 4 rfl) ?_
            refine lv_iadd hx hb dX6_bestPost_69 ?_
            refine k_iald hc hM (show (putD g M q (up2 md 7 19 0)) (q + 1) = some (.inl (gI g, 81, .inl (md 0))) from (hW.ar 0 (by decide) (by decide) rfl rfl)) (inS (by assumption)) dX6_bestPost_70 ?_
            refine lv_isub hx hb dX6_bestPost_71 ?_
            refine k_abs hc q_X6_94 dX6_bestPost_72 hl.1 ⟨Nat.le_of_ble_eq_true rfl, Nat.le_of_ble_eq_true rfl, Nat.le_of_ble_eq_true rfl, Nat.le_of_ble_eq_true rfl⟩ ?_
            refine lv_istore (lv' := [(5, .int (absI ((seM (md 0) v (nI k)) - ((md 0) (9 + v).toNatClampNeg)))), (4, .int (nI k)), (3, .int (itr (bpM (md 0) v) (-1, 0) k).2), (2, .int (itr (bpM (md 0) v) (-1, 0) k).1), (0, .ref q), (1, .int v)]) hx hb dX6_bestPost_75 hl (by decide) rfl (fun ls hl => ?_)
            refine lv_iload_n hx hb dX6_bestPost_77 rfl (lv_at hl 3 rfl) ?_
            refine lv_if_lt (tgt := 112) hx hb dX6_bestPost_78 (by decide) (fun c_78 => ?_) (fun c_78 => ?_)
            · skip
              refine lv_iload hx hb dX6_bestPost_112 (lv_at hl 1 rfl) ?_
              refine lv_istore_n (lv' := [(2, .int (nI k)), (5, .int (absI ((seM (md 0) v (nI k)) - ((md 0) (9 + v).toNatClampNeg)))), (4, .int (nI k)), (3, .int (itr (bpM (md 0) v) (-1, 0) k).2), (0, .ref q), (1, .int v)]) hx hb dX6_bestPost_114 rfl hl (by decide) rfl (fun ls hl => ?_)
              refine lv_iload hx hb dX6_bestPost_115 (lv_at hl 1 rfl) ?_
              refine lv_istore_n (lv' := [(3, .int (absI ((seM (md 0) v (nI k)) - ((md 0) (9 + v).toNatClampNeg)))), (2, .int (nI k)), (5, .int (absI ((seM (md 0) v (nI k)) - ((md 0) (9 + v).toNatClampNeg)))), (4, .int (nI k)), (0, .ref q), (1, .int v)]) hx hb dX6_bestPost_117 rfl hl (by decide) rfl (fun ls hl => ?_)
              refine lv_iinc (v := (nI (k + 1))) (lv' := [(4, .int (nI (k + 1))), (3, .int (absI ((seM (md 0) v (nI k)) - ((md 0) (9 + v).toNatClampNeg)))), (2, .int (nI k)), (5, .int (absI ((seM (md 0) v (nI k)) - ((md 0) (9 + v).toNatClampNeg)))), (0, .ref q), (1, .int v)]) hx hb dX6_bestPost_118 hl (k := 3) rfl (k_inc1 _) (by decide) rfl (fun ls hl => ?_)
              refine lv_goto (tgt := 26) hx hb dX6_bestPost_121 (by decide) ?_
              have z_3 : (absI ((seM (md 0) v (nI k)) - ((md 0) (9 + v).toNatClampNeg))) = (itr (bpM (md 0) v) (-1, 0) (k + 1)).2 := (by rw [itr_s]; simp only [bpM, eq_true c_10, eq_false c_34, eq_false c_49, eq_true c_78, not_false_eq_true, not_true_eq_false, and_true, true_and, and_false, false_and, and_self, ↓reduceIte, or_true, true_or, or_self, or_false, false_or])
              have hl := lv_chg (lv_sub hl [1, 0, 2, 3, 4, 5] rfl) z_3
              have z_2 : (nI k) = (itr (bpM (md 0) v) (-1, 0) (k + 1)).1 := (by rw [itr_s]; simp only [bpM, eq_true c_10, eq_false c_34, eq_false c_49, eq_true c_78, not_false_eq_true, not_true_eq_false, and_true, true_and, and_false, false_and, and_self, ↓reduceIte, or_true, true_or, or_self, or_false, false_or])
              have hl := lv_chg (lv_sub hl [2, 0, 1, 3, 4, 5] rfl) z_2
              exact ih_26 (k + 1) (by omega) (by omega) ls _ _ hM hS (lv_sub hl [2, 1, 0, 4, 5] rfl)
            · skip
              have ok_78 : okP (itr (bpM (md 0) v) (-1, 0) k).1 := (bpM_ok (f := md 0) hI k (by omega)).resolve_left c_78
              refine lv_iload hx hb dX6_bestPost_81 (lv_at hl 0 rfl) ?_
              refine lv_iload_n hx hb dX6_bestPost_83 rfl (lv_at hl 2 rfl) ?_
              refine lv_icmp_gt (tgt := 118) hx hb dX6_bestPost_84 (by decide) (fun c_84 => ?_) (fun c_84 => ?_)
              · skip
                refine lv_iinc (v := (nI (k + 1))) (lv' := [(4, .int (nI (k + 1))), (5, .int (absI ((seM (md 0) v (nI k)) - ((md 0) (9 + v).toNatClampNeg)))), (3, .int (itr (bpM (md 0) v) (-1, 0) k).2), (2, .int (itr (bpM (md 0) v) (-1, 0) k).1), (0, .ref q), (1, .int v)]) hx hb dX6_bestPost_118 hl (k := 1) rfl (k_inc1 _) (by decide) rfl (fun ls hl => ?_)
                refine lv_goto (tgt := 26) hx hb dX6_bestPost_121 (by decide) ?_
                have z_3 : (itr (bpM (md 0) v) (-1, 0) k).2 = (itr (bpM (md 0) v) (-1, 0) (k + 1)).2 := (by rw [itr_s]; simp only [bpM, eq_true c_10, eq_false c_34, eq_false c_49, eq_false c_78, eq_true c_84, not_false_eq_true, not_true_eq_false, and_true, true_and, and_false, false_and, and_self, ↓reduceIte, or_true, true_or, or_self, or_false, false_or])
                have hl := lv_chg (lv_sub hl [2, 0, 1, 3, 4, 5] rfl) z_3
                have z_2 : (itr (bpM (md 0) v) (-1, 0) k).1 = (itr (bpM (md 0) v) (-1, 0) (k + 1)).1 := (by rw [itr_s]; simp only [bpM, eq_true c_10, eq_false c_34, eq_false c_49, eq_false c_78, eq_true c_84, not_false_eq_true, not_true_eq_false, and_true, true_and, and_false, false_and, and_self, ↓reduceIte, or_true, true_or, or_self, or_false, false_or])
                have hl := lv_chg (lv_sub hl [3, 0, 1, 2, 4, 5] rfl) z_2
                exact ih_26 (k + 1) (by omega) (by omega) ls _ _ hM hS (lv_sub hl [2, 1, 0, 4, 5] rfl)
              · skip
                refine lv_iload hx hb dX6_bestPost_87 (lv_at hl 0 rfl) ?_
                refine lv_iload_n hx hb dX6_bestPost_89 rfl (lv_at hl 2 rfl) ?_
                refine lv_icmp_ne (tgt := 112) hx hb dX6_bestPost_90 (by decide) (fun c_90 => ?_) (fun c_90 => ?_)
                · skip
                  refine lv_iload hx hb dX6_bestPost_112 (lv_at hl 1 rfl) ?_
                  refine lv_istore_n (lv' := [(2, .int (nI k)), (5, .int (absI ((seM (md 0) v (nI k)) - ((md 0) (9 + v).toNatClampNeg)))), (4, .int (nI k)), (3, .int (itr (bpM (md 0) v) (-1, 0) k).2), (0, .ref q), (1, .int v)]) hx hb dX6_bestPost_114 rfl hl (by decide) rfl (fun ls hl => ?_)
                  refine lv_iload hx hb dX6_bestPost_115 (lv_at hl 1 rfl) ?_
                  refine lv_istore_n (lv' := [(3, .int (absI ((seM (md 0) v (nI k)) - ((md 0) (9 + v).toNatClampNeg)))), (2, .int (nI k)), (5, .int (absI ((seM (md 0) v (nI k)) - ((md 0) (9 + v).toNatClampNeg)))), (4, .int (nI k)), (0, .ref q), (1, .int v)]) hx hb dX6_bestPost_117 rfl hl (by decide) rfl (fun ls hl => ?_)
                  refine lv_iinc (v := (nI (k + 1))) (lv' := [(4, .int (nI (k + 1))), (3, .int (absI ((seM (md 0) v (nI k)) - ((md 0) (9 + v).toNatClampNeg)))), (2, .int (nI k)), (5, .int (absI ((seM (md 0) v (nI k)) - ((md 0) (9 + v).toNatClampNeg)))), (0, .ref q), (1, .int v)]) hx hb dX6_bestPost_118 hl (k := 3) rfl (k_inc1 _) (by decide) rfl (fun ls hl => ?_)
                  refine lv_goto (tgt := 26) hx hb dX6_bestPost_121 (by decide) ?_
                  have z_3 : (absI ((seM (md 0) v (nI k)) - ((md 0) (9 + v).toNatClampNeg))) = (itr (bpM (md 0) v) (-1, 0) (k + 1)).2 := (by rw [itr_s]; simp only [bpM, eq_true c_10, eq_false c_34, eq_false c_49, eq_false c_78, eq_false c_84, eq_false c_90, not_false_eq_true, not_true_eq_false, and_true, true_and, and_false, false_and, and_self, ↓reduceIte, or_true, true_or, or_self, or_false, false_or])
                  have hl := lv_chg (lv_sub hl [1, 0, 2, 3, 4, 5] rfl) z_3
                  have z_2 : (nI k) = (itr (bpM (md 0) v) (-1, 0) (k + 1)).1 := (by rw [itr_s]; simp only [bpM, eq_true c_10, eq_false c_34, eq_false c_49, eq_false c_78, eq_false c_84, eq_false c_90, not_false_eq_true, not_true_eq_false, and_true, true_and, and_false, false_and, and_self, ↓reduceIte, or_true, true_or, or_self, or_false, false_or])
                  have hl := lv_chg (lv_sub hl [2, 0, 1, 3, 4, 5] rfl) z_2
                  exact ih_26 (k + 1) (by omega) (by omega) ls _ _ hM hS (lv_sub hl [2, 1, 0, 4, 5] rfl)
                · skip
                  refine lv_aload_n hx hb dX6_bestPost_93 rfl (lv_at hl 4 rfl) ?_
                  refine lv_iload hx hb dX6_bestPost_94 (lv_at hl 1 rfl) ?_
                  refine lv_iconst (v := 1) hx hb dX6_bestPost_96 (by decide) ?_
                  refine k_V1 (v := .int (mP (md 0) (nI k) 1)) hc [.int (nI k), .int 1] cw_X6_91 rfl dX6_bestPost_97 (c_X6_ofPost l hlf g _ q (up2 md 7 19 0) (nI k) 1 hW (by first | assumption | decide) (by first | assumption | decide)) hW.o hM hS hl.1 rfl rfl ⟨Nat.le_of_ble_eq_true rfl, Nat.le_of_ble_eq_true rfl⟩ ⟨Nat.le_of_ble_eq_true rfl, Nat.le_of_ble_eq_true rfl⟩ (Nat.le_of_ble_eq_true rfl) (fun H locs hM hS => ?_)
                  refine lv_aload_n hx hb dX6_bestPost_100 rfl (lv_at hl 4 rfl) ?_
                  refine lv_iload_n hx hb dX6_bestPost_101 rfl (lv_at hl 3 rfl) ?_
                  refine lv_iconst (v := 1) hx hb dX6_bestPost_102 (by decide) ?_
                  refine k_V1 (v := .int (mP (md 0) ((itr (bpM (md 0) v) (-1, 0) k).1) 1)) hc [.int (itr (bpM (md 0) v) (-1, 0) k).1, .int 1] cw_X6_91 rfl dX6_bestPost_103 (c_X6_ofPost l hlf g _ q (up2 md 7 19 0) ((itr (bpM (md 0) v) (-1, 0) k).1) 1 hW (by first | assumption | decide) (by first | assumption | decide)) hW.o hM hS hl.1 rfl rfl ⟨Nat.le_of_ble_eq_true rfl, Nat.le_of_ble_eq_true rfl⟩ ⟨Nat.le_of_ble_eq_true rfl, Nat.le_of_ble_eq_true rfl⟩ (Nat.le_of_ble_eq_true rfl) (fun H locs hM hS => ?_)
                  refine lv_icmp_gt (tgt := 112) hx hb dX6_bestPost_106 (by decide) (fun c_106 => ?_) (fun c_106 => ?_)
                  · skip
                    refine lv_iload hx hb dX6_bestPost_112 (lv_at hl 1 rfl) ?_
                    refine lv_istore_n (lv' := [(2, .int (nI k)), (5, .int (absI ((seM (md 0) v (nI k)) - ((md 0) (9 + v).toNatClampNeg)))), (4, .int (nI k)), (3, .int (itr (bpM (md 0) v) (-1, 0) k).2), (0, .ref q), (1, .int v)]) hx hb dX6_bestPost_114 rfl hl (by decide) rfl (fun ls hl => ?_)
                    refine lv_iload hx hb dX6_bestPost_115 (lv_at hl 1 rfl) ?_
                    refine lv_istore_n (lv' := [(3, .int (absI ((seM (md 0) v (nI k)) - ((md 0) (9 + v).toNatClampNeg)))), (2, .int (nI k)), (5, .int (absI ((seM (md 0) v (nI k)) - ((md 0) (9 + v).toNatClampNeg)))), (4, .int (nI k)), (0, .ref q), (1, .int v)]) hx hb dX6_bestPost_117 rfl hl (by decide) rfl (fun ls hl => ?_)
                    refine lv_iinc (v := (nI (k + 1))) (lv' := [(4, .int (nI (k + 1))), (3, .int (absI ((seM (md 0) v (nI k)) - ((md 0) (9 + v).toNatClampNeg)))), (2, .int (nI k)), (5, .int (absI ((seM (md 0) v (nI k)) - ((md 0) (9 + v).toNatClampNeg)))), (0, .ref q), (1, .int v)]) hx hb dX6_bestPost_118 hl (k := 3) rfl (k_inc1 _) (by decide) rfl (fun ls hl => ?_)
                    refine lv_goto (tgt := 26) hx hb dX6_bestPost_121 (by decide) ?_
                    have z_3 : (absI ((seM (md 0) v (nI k)) - ((md 0) (9 + v).toNatClampNeg))) = (itr (bpM (md 0) v) (-1, 0) (k + 1)).2 := (by rw [itr_s]; simp only [bpM, eq_true c_10, eq_false c_34, eq_false c_49, eq_false c_78, eq_false c_84, eq_true c_90, eq_true c_106, not_false_eq_true, not_true_eq_false, and_true, true_and, and_false, false_and, and_self, ↓reduceIte, or_true, true_or, or_self, or_false, false_or])
                    have hl := lv_chg (lv_sub hl [1, 0, 2, 3, 4, 5] rfl) z_3
                    have z_2 : (nI k) = (itr (bpM (md 0) v) (-1, 0) (k + 1)).1 := (by rw [itr_s]; simp only [bpM, eq_true c_10, eq_false c_34, eq_false c_49, eq_false c_78, eq_false c_84, eq_true c_90, eq_true c_106, not_false_eq_true, not_true_eq_false, and_true, true_and, and_false, false_and, and_self, ↓reduceIte, or_true, true_or, or_self, or_false, false_or])
                    have hl := lv_chg (lv_sub hl [2, 0, 1, 3, 4, 5] rfl) z_2
                    exact ih_26 (k + 1) (by omega) (by omega) ls _ _ hM hS (lv_sub hl [2, 1, 0, 4, 5] rfl)
                  · skip
                    refine lv_goto (tgt := 118) hx hb dX6_bestPost_109 (by decide) ?_
                    refine lv_iinc (v := (nI (k + 1))) (lv' := [(4, .int (nI (k + 1))), (5, .int (absI ((seM (md 0) v (nI k)) - ((md 0) (9 + v).toNatClampNeg)))), (3, .int (itr (bpM (md 0) v) (-1, 0) k).2), (2, .int (itr (bpM (md 0) v) (-1, 0) k).1), (0, .ref q), (1, .int v)]) hx hb dX6_bestPost_118 hl (k := 1) rfl (k_inc1 _) (by decide) rfl (fun ls hl => ?_)
                    refine lv_goto (tgt := 26) hx hb dX6_bestPost_121 (by decide) ?_
                    have z_3 : (itr (bpM (md 0) v) (-1, 0) k).2 = (itr (bpM (md 0) v) (-1, 0) (k + 1)).2 := (by rw [itr_s]; simp only [bpM, eq_true c_10, eq_false c_34, eq_false c_49, eq_false c_78, eq_false c_84, eq_true c_90, eq_false c_106, not_false_eq_true, not_true_eq_false, and_true, true_and, and_false, false_and, and_self, ↓reduceIte, or_true, true_or, or_self, or_false, false_or])
                    have hl := lv_chg (lv_sub hl [2, 0, 1, 3, 4, 5] rfl) z_3
                    have z_2 : (itr (bpM (md 0) v) (-1, 0) k).1 = (itr (bpM (md 0) v) (-1, 0) (k + 1)).1 := (by rw [itr_s]; simp only [bpM, eq_true c_10, eq_false c_34, eq_false c_49, eq_false c_78, eq_false c_84, eq_true c_90, eq_false c_106, not_false_eq_true, not_true_eq_false, and_true, true_and, and_false, false_and, and_self, ↓reduceIte, or_true, true_or, or_self, or_false, false_or])
                    have hl := lv_chg (lv_sub hl [3, 0, 1, 2, 4, 5] rfl) z_2
                    exact ih_26 (k + 1) (by omega) (by omega) ls _ _ hM hS (lv_sub hl [2, 1, 0, 4, 5] rfl)
          · skip
            have c_49 := bI_ne.mp c_49
            refine lv_goto (tgt := 118) hx hb dX6_bestPost_52 (by decide) ?_
            refine lv_iinc (v := (nI (k + 1))) (lv' := [(4, .int (nI (k + 1))), (3, .int (itr (bpM (md 0) v) (-1, 0) k).2), (2, .int (itr (bpM (md 0) v) (-1, 0) k).1), (0, .ref q), (1, .int v)]) hx hb dX6_bestPost_118 hl (k := 0) rfl (k_inc1 _) (by decide) rfl (fun ls hl => ?_)
            refine lv_goto (tgt := 26) hx hb dX6_bestPost_121 (by decide) ?_
            have z_3 : (itr (bpM (md 0) v) (-1, 0) k).2 = (itr (bpM (md 0) v) (-1, 0) (k + 1)).2 := (by rw [itr_s]; simp only [bpM, eq_true c_10, eq_false c_34, eq_true c_49, not_false_eq_true, not_true_eq_false, and_true, true_and, and_false, false_and, and_self, ↓reduceIte, or_true, true_or, or_self, or_false, false_or])
            have hl := lv_chg (lv_sub hl [1, 0, 2, 3, 4] rfl) z_3
            have z_2 : (itr (bpM (md 0) v) (-1, 0) k).1 = (itr (bpM (md 0) v) (-1, 0) (k + 1)).1 := (by rw [itr_s]; simp only [bpM, eq_true c_10, eq_false c_34, eq_true c_49, not_false_eq_true, not_true_eq_false, and_true, true_and, and_false, false_and, and_self, ↓reduceIte, or_true, true_or, or_self, or_false, false_or])
            have hl := lv_chg (lv_sub hl [2, 0, 1, 3, 4] rfl) z_2
            exact ih_26 (k + 1) (by omega) (by omega) ls _ _ hM hS (lv_sub hl [2, 1, 0, 3, 4] rfl)
    have z_4 : 0 = (nI 0) := rfl
    have hl := lv_chg (lv_sub hl [0, 1, 2, 3, 4] rfl) z_4
    have z_3 : 0 = (itr (bpM (md 0) v) (-1, 0) 0).2 := rfl
    have hl := lv_chg (lv_sub hl [1, 0, 2, 3, 4] rfl) z_3
    have z_2 : (-1) = (itr (bpM (md 0) v) (-1, 0) 0).1 := rfl
    have hl := lv_chg (lv_sub hl [2, 0, 1, 3, 4] rfl) z_2
    exact lp_26 ((md 0 3).toNatClampNeg + 1) 0 (by omega) (by omega) ls _ _ hM hS (lv_sub hl [2, 1, 0, 3, 4] rfl)
  · skip
    have c_10 := bI_eq.mp c_10
    refine lv_aload_n hx hb dX6_bestPost_13 rfl (lv_at hl 0 rfl) ?_
    refine lv_iconst (v := 1) hx hb dX6_bestPost_14 (by decide) ?_
    refine k_V1 (v := .int 0) hc [.int 1] cw_X6_61 rfl dX6_bestPost_15 (c_X6_raises l hlf g _ q (up2 md 7 19 0) 1 hW) hW.o hM hS hl.1 rfl rfl ⟨Nat.le_of_ble_eq_true rfl, Nat.le_of_ble_eq_true rfl⟩ ⟨Nat.le_of_ble_eq_true rfl, Nat.le_of_ble_eq_true rfl⟩ (Nat.le_of_ble_eq_true rfl) (fun H locs hM hS => ?_)
    have hM := hR.eq hM putD_putD
    have hW := MdAt.put (g := g) (M := M) (m := q) (md := (up2 (up2 md 7 19 0) 7 19 1))
    exact k_iret hc hr dX6_bestPost_18 hM hS (Nat.le_of_ble_eq_true rfl) (Nat.le_of_ble_eq_true rfl) (by first | (simp only [eq_self, eq_false c_10, eq_self, bM_l, bM_r, rsM_l, rsM_r, seV_l, seV_r, snE_l, snE_r, up1_at, up1_up1, up2_up2, not_false_eq_true, not_true_eq_false, and_true, true_and, and_false, false_and, and_self, ↓reduceIte, or_true, true_or, or_self, or_false, false_or]; done) | (simp only [eq_self, eq_false c_10, eq_self, bM_l, bM_r, rsM_l, rsM_r, seV_l, seV_r, snE_l, snE_r, up1_at, up1_up1, up2_up2, not_false_eq_true, not_true_eq_false, and_true, true_and, and_false, false_and, and_self, ↓reduceIte, or_true, true_or, or_self, or_false, false_or]; rfl))
set_option maxHeartbeats 4000000 in
set_option maxRecDepth 100000 in
theorem c_X6_clearIn (l : Launch) (hlf : l.stackTraces = false) (g : GC) (M : HM) (q : Nat) (md : FL) (v : Int32) (w : Int32) (hW : MdAt g M q md) (hI : mOk (md 0)) : KM g l yX6_clearIn cX6_clearIn 4 (some .int) 7 0 0 [.ref q, .int v, .int w] M (.inl (some (.int (if inB v 0 (md 0 2 - 1) ∧ inB w 0 (md 0 3 - 1) then (if fnd (fun k => decide (¬ shM (md 0) v w (mHb (md 0) (nI k)))) 24 0 = -1 then 0 else fnd (fun k => decide (¬ shM (md 0) v w (mHb (md 0) (nI k)))) 24 0) else 0)), (putD g M q (up2 md 7 19 (if inB v 0 (md 0 2 - 1) ∧ inB w 0 (md 0 3 - 1) then (if fnd (fun k => decide (¬ shM (md 0) v w (mHb (md 0) (nI k)))) 24 0 = -1 then 2 else 0) else 1))))) := by
  refine k_meth hlf (by decide) (Nat.le_of_ble_eq_true rfl) fun p e s m below meth c ls hc hr hnx hM hS hl => ?_
  have hc : Cx g p l s m [.ref q, .int v, .int w].toArray meth c cX6_clearIn 4 RX6 := hc
  have hx := hc.1
  have hb := hc.2.1
  have hl : lv_has ls 4 [(0, .ref q), (1, .int v), (2, .int w)] := hl
  refine lv_aload_n hx hb dX6_clearIn_0 rfl (lv_at hl 0 rfl) ?_
  refine lv_iconst (v := 0) hx hb dX6_clearIn_1 (by decide) ?_
  refine pt_X6_36 hc dX6_clearIn_2 hM hS hW.o rfl rfl (Nat.le_of_ble_eq_true rfl) (fun H locs hM hS => ?_)
  have hM := hR.eq hM (putD_sc hW 19 (v := 0) md_s19)
  have hW := MdAt.put (g := g) (M := M) (m := q) (md := (up2 md 7 19 0))
  refine lv_aload_n hx hb dX6_clearIn_5 rfl (lv_at hl 0 rfl) ?_
  refine lv_iload_n hx hb dX6_clearIn_6 rfl (lv_at hl 1 rfl) ?_
  refine k_V1 (v := .int (bI (inB v 0 ((md 0) 2 - 1)))) hc [.int v] cw_X6_103 rfl dX6_clearIn_7 (c_X6_isStake l hlf g _ q (up2 md 7 19 0) v hW) hW.o hM hS hl.1 rfl rfl ⟨Nat.le_of_ble_eq_true rfl, Nat.le_of_ble_eq_true rfl⟩ ⟨Nat.le_of_ble_eq_true rfl, Nat.le_of_ble_eq_true rfl⟩ (Nat.le_of_ble_eq_true rfl) (fun H locs hM hS => ?_)
  refine lv_if_eq (tgt := 21) hx hb dX6_clearIn_10 (by decide) (fun c_10 => ?_) (fun c_10 => ?_)
  · skip
    have c_10 := bI_eq.mp c_10
    refine lv_aload_n hx hb dX6_clearIn_21 rfl (lv_at hl 0 rfl) ?_
    refine lv_iconst (v := 1) hx hb dX6_clearIn_22 (by decide) ?_
    refine k_V1 (v := .int 0) hc [.int 1] cw_X6_61 rfl dX6_clearIn_23 (c_X6_raises l hlf g _ q (up2 md 7 19 0) 1 hW) hW.o hM hS hl.1 rfl rfl ⟨Nat.le_of_ble_eq_true rfl, Nat.le_of_ble_eq_true rfl⟩ ⟨Nat.le_of_ble_eq_true rfl, Nat.le_of_ble_eq_true rfl⟩ (Nat.le_of_ble_eq_true rfl) (fun H locs hM hS => ?_)
    have hM := hR.eq hM putD_putD
    have hW := MdAt.put (g := g) (M := M) (m := q) (md := (up2 (up2 md 7 19 0) 7 19 1))
    exact k_iret hc hr dX6_clearIn_26 hM hS (Nat.le_of_ble_eq_true rfl) (Nat.le_of_ble_eq_true rfl) (by first | (simp only [eq_self, eq_false c_10, eq_self, bM_l, bM_r, rsM_l, rsM_r, seV_l, seV_r, snE_l, snE_r, up1_at, up1_up1, up2_up2, not_false_eq_true, not_true_eq_false, and_true, true_and, and_false, false_and, and_self, ↓reduceIte, or_true, true_or, or_self, or_false, false_or]; done) | (simp only [eq_self, eq_false c_10, eq_self, bM_l, bM_r, rsM_l, rsM_r, seV_l, seV_r, snE_l, snE_r, up1_at, up1_up1, up2_up2, not_false_eq_true, not_true_eq_false, and_true, true_and, and_false, false_and, and_self, ↓reduceIte, or_true, true_or, or_self, or_false, false_or]; rfl))
  · skip
    have c_10 := bI_ne.mp c_10
    have ok_10 := isS_ok (f := md 0) hI c_10
    refine lv_aload_n hx hb dX6_clearIn_13 rfl (lv_at hl 0 rfl) ?_
    refine lv_iload_n hx hb dX6_clearIn_14 rfl (lv_at hl 2 rfl) ?_
    refine k_V1 (v := .int (bI (inB w 0 ((md 0) 3 - 1)))) hc [.int w] cw_X6_107 rfl dX6_clearIn_15 (c_X6_isPost l hlf g _ q (up2 md 7 19 0) w hW) hW.o hM hS hl.1 rfl rfl ⟨Nat.le_of_ble_eq_true rfl, Nat.le_of_ble_eq_true rfl⟩ ⟨Nat.le_of_ble_eq_true rfl, Nat.le_of_ble_eq_true rfl⟩ (Nat.le_of_ble_eq_true rfl) (fun H locs hM hS => ?_)
    refine lv_if_ne (tgt := 27) hx hb dX6_clearIn_18 (by decide) (fun c_18 => ?_) (fun c_18 => ?_)
    · skip
      have c_18 := bI_ne.mp c_18
      have ok_18 := isP_ok (f := md 0) hI c_18
      refine lv_iconst (v := 0) hx hb dX6_clearIn_27 (by decide) ?_
      refine lv_istore_n (lv' := [(3, .int 0), (0, .ref q), (1, .int v), (2, .int w)]) hx hb dX6_clearIn_28 rfl hl (by decide) rfl (fun ls hl => ?_)
      have lp_29 : ∀ (D k : Nat), 24 - k < D → k ≤ 24 → ((fnd (fun k => decide (¬ shM (md 0) v w (mHb (md 0) (nI k)))) 24 0) = fnd (fun k => decide (¬ shM (md 0) v w (mHb (md 0) (nI k)))) (24 - k) k) → ∀ (ls : Array Slot) (H : Heap) (locs : List Loc), hR g (putD g M q (up2 md 7 19 0)) H → va_S (gA g) s.heap H locs → lv_has ls 4 [(3, .int (nI k)), (0, .ref q), (1, .int v), (2, .int w)] → W p l e (rmOf 7 0 0) s m [.ref q, .int v, .int w].toArray below meth c H locs 0 0 (vx_MQ below (KQ g (.inl (some (.int (if inB v 0 (md 0 2 - 1) ∧ inB w 0 (md 0 3 - 1) then (if fnd (fun k => decide (¬ shM (md 0) v w (mHb (md 0) (nI k)))) 24 0 = -1 then 0 else fnd (fun k => decide (¬ shM (md 0) v w (mHb (md 0) (nI k)))) 24 0) else 0)), (putD g M q (up2 md 7 19 (if inB v 0 (md 0 2 - 1) ∧ inB w 0 (md 0 3 - 1) then (if fnd (fun k => decide (¬ shM (md 0) v w (mHb (md 0) (nI k)))) 24 0 = -1 then 2 else 0) else 1)))))) (KX g (.inl (some (.int (if inB v 0 (md 0 2 - 1) ∧ inB w 0 (md 0 3 - 1) then (if fnd (fun k => decide (¬ shM (md 0) v w (mHb (md 0) (nI k)))) 24 0 = -1 then 0 else fnd (fun k => decide (¬ shM (md 0) v w (mHb (md 0) (nI k)))) 24 0) else 0)), (putD g M q (up2 md 7 19 (if inB v 0 (md 0 2 - 1) ∧ inB w 0 (md 0 3 - 1) then (if fnd (fun k => decide (¬ shM (md 0) v w (mHb (md 0) (nI k)))) 24 0 = -1 then 2 else 0) else 1)))))) [.ref q, .int v, .int w].toArray s 0 0 (gA g)) (F0 m 29 ls []) := by
        intro D
        induction D with
        | zero => intro k hD; exact absurd hD (Nat.not_lt_zero _)
        | succ D ih_29 =>
          intro k hD hk hq ls H locs hM hS hl
          refine lv_iload_n hx hb dX6_clearIn_29 rfl (lv_at hl 0 rfl) ?_
          refine lv_bipush (v := 24) hx hb dX6_clearIn_30 (by decide) ?_
          refine lv_icmp_ge (tgt := 57) hx hb dX6_clearIn_32 (by decide) (fun c_32 => ?_) (fun c_32 => ?_)
          · skip
            have c_32 := (k_leL (b := 24) rfl (by decide) (by omega)).mp c_32
            have hf : (fnd (fun k => decide (¬ shM (md 0) v w (mHb (md 0) (nI k)))) 24 0) = -1 := hq.trans (fnd_stop c_32)
            refine lv_aload_n hx hb dX6_clearIn_57 rfl (lv_at hl 1 rfl) ?_
            refine lv_iconst (v := 2) hx hb dX6_clearIn_58 (by decide) ?_
            refine k_V1 (v := .int 0) hc [.int 2] cw_X6_61 rfl dX6_clearIn_59 (c_X6_raises l hlf g _ q (up2 md 7 19 0) 2 hW) hW.o hM hS hl.1 rfl rfl ⟨Nat.le_of_ble_eq_true rfl, Nat.le_of_ble_eq_true rfl⟩ ⟨Nat.le_of_ble_eq_true rfl, Nat.le_of_ble_eq_true rfl⟩ (Nat.le_of_ble_eq_true rfl) (fun H locs hM hS => ?_)
            have hM := hR.eq hM putD_putD
            have hW := MdAt.put (g := g) (M := M) (m := q) (md := (up2 (up2 md 7 19 0) 7 19 2))
            exact k_iret hc hr dX6_clearIn_62 hM hS (Nat.le_of_ble_eq_true rfl) (Nat.le_of_ble_eq_true rfl) (by first | (simp only [eq_self, eq_true c_10, eq_true c_18, eq_true hf, eq_self, bM_l, bM_r, rsM_l, rsM_r, seV_l, seV_r, snE_l, snE_r, up1_at, up1_up1, up2_up2, not_false_eq_true, not_true_eq_false, and_true, true_and, and_false, false_and, and_self, ↓reduceIte, or_true, true_or, or_self, or_false, false_or]; done) | (simp only [eq_self, eq_true c_10, eq_true c_18, eq_true hf, eq_self, bM_l, bM_r, rsM_l, rsM_r, seV_l, seV_r, snE_l, snE_r, up1_at, up1_up1, up2_up2, not_false_eq_true, not_true_eq_false, and_true, true_and, and_false, false_and, and_self, ↓reduceIte, or_true, true_or, or_self, or_false, false_or]; rfl))
          · skip
            have c_32 : ¬ 24 ≤ k := fun h => c_32 ((k_leL (b := 24) rfl (by decide) (by omega)).mpr h)
            refine lv_aload_n hx hb dX6_clearIn_35 rfl (lv_at hl 1 rfl) ?_
            refine lv_iload_n hx hb dX6_clearIn_36 rfl (lv_at hl 2 rfl) ?_
            refine lv_iload_n hx hb dX6_clearIn_37 rfl (lv_at hl 3 rfl) ?_
            refine lv_aload_n hx hb dX6_clearIn_38 rfl (lv_at hl 1 rfl) ?_
            refine lv_iload_n hx hb dX6_clearIn_39 rfl (lv_at hl 0 rfl) ?_
            refine k_V1 (v := .int (mHb (md 0) (nI k))) hc [.int (nI k)] cw_X6_88 rfl dX6_clearIn_40 (c_X6_heatBehind l hlf g _ q (up2 md 7 19 0) (nI k) hW) hW.o hM hS hl.1 rfl rfl ⟨Nat.le_of_ble_eq_true rfl, Nat.le_of_ble_eq_true rfl⟩ ⟨Nat.le_of_ble_eq_true rfl, Nat.le_of_ble_eq_true rfl⟩ (Nat.le_of_ble_eq_true rfl) (fun H locs hM hS => ?_)
            refine k_V1 (v := .int (bI (shM (md 0) v w (mHb (md 0) (nI k))))) hc [.int v, .int w, .int (mHb (md 0) (nI k))] cw_X6_113 rfl dX6_clearIn_43 (c_X6_shimmersBy l hlf g _ q (up2 md 7 19 0) v w (mHb (md 0) (nI k)) hW (by first | assumption | decide) (by first | assumption | decide)) hW.o hM hS hl.1 rfl rfl ⟨Nat.le_of_ble_eq_true rfl, Nat.le_of_ble_eq_true rfl⟩ ⟨Nat.le_of_ble_eq_true rfl, Nat.le_of_ble_eq_true rfl⟩ (Nat.le_of_ble_eq_true rfl) (fun H locs hM hS => ?_)
            refine lv_if_ne (tgt := 51) hx hb dX6_clearIn_46 (by decide) (fun c_46 => ?_) (fun c_46 => ?_)
            · skip
              have c_46 := bI_ne.mp c_46
              refine lv_iinc (v := (nI (k + 1))) (lv' := [(3, .int (nI (k + 1))), (0, .ref q), (1, .int v), (2, .int w)]) hx hb dX6_clearIn_51 hl (k := 0) rfl (k_inc1 _) (by decide) rfl (fun ls hl => ?_)
              refine lv_goto (tgt := 29) hx hb dX6_clearIn_54 (by decide) ?_
              exact ih_29 (k + 1) (by omega) (by omega) (hq.trans (fnd_next (Nat.not_le.mp c_32) (by simpa using c_46))) ls _ _ hM hS (lv_sub hl [0, 1, 2, 3] rfl)
            · skip
              have c_46 := bI_eq.mp c_46
              have hf : (fnd (fun k => decide (¬ shM (md 0) v w (mHb (md 0) (nI k)))) 24 0) = nI k := hq.trans (fnd_hit (Nat.not_le.mp c_32) (by simpa using c_46))
              have hne : ¬ (fnd (fun k => decide (¬ shM (md 0) v w (mHb (md 0) (nI k)))) 24 0) = -1 := by rw [hf]; exact nI_nm1 (by omega)
              have z_3 : (nI k) = (fnd (fun k => decide (¬ shM (md 0) v w (mHb (md 0) (nI k)))) 24 0) := hf.symm
              have hl := lv_chg (lv_sub hl [0, 1, 2, 3] rfl) z_3
              refine lv_iload_n hx hb dX6_clearIn_49 rfl (lv_at hl 0 rfl) ?_
              exact k_iret hc hr dX6_clearIn_50 hM hS (Nat.le_of_ble_eq_true rfl) (Nat.le_of_ble_eq_true rfl) (by first | (simp only [eq_self, eq_true c_10, eq_true c_18, eq_false c_32, eq_false c_46, eq_false hne, eq_self, bM_l, bM_r, rsM_l, rsM_r, seV_l, seV_r, snE_l, snE_r, up1_at, up1_up1, up2_up2, not_false_eq_true, not_true_eq_false, and_true, true_and, and_false, false_and, and_self, ↓reduceIte, or_true, true_or, or_self, or_false, false_or]; done) | (simp only [eq_self, eq_true c_10, eq_true c_18, eq_false c_32, eq_false c_46, eq_false hne, eq_self, bM_l, bM_r, rsM_l, rsM_r, seV_l, seV_r, snE_l, snE_r, up1_at, up1_up1, up2_up2, not_false_eq_true, not_true_eq_false, and_true, true_and, and_false, false_and, and_self, ↓reduceIte, or_true, true_or, or_self, or_false, false_or]; rfl))
      have z_3 : 0 = (nI 0) := rfl
      have hl := lv_chg (lv_sub hl [0, 1, 2, 3] rfl) z_3
      exact lp_29 (24 + 1) 0 (by omega) (by omega) rfl ls _ _ hM hS (lv_sub hl [0, 1, 2, 3] rfl)
    · skip
      have c_18 := bI_eq.mp c_18
      refine lv_aload_n hx hb dX6_clearIn_21 rfl (lv_at hl 0 rfl) ?_
      refine lv_iconst (v := 1) hx hb dX6_clearIn_22 (by decide) ?_
      refine k_V1 (v := .int 0) hc [.int 1] cw_X6_61 rfl dX6_clearIn_23 (c_X6_raises l hlf g _ q (up2 md 7 19 0) 1 hW) hW.o hM hS hl.1 rfl rfl ⟨Nat.le_of_ble_eq_true rfl, Nat.le_of_ble_eq_true rfl⟩ ⟨Nat.le_of_ble_eq_true rfl, Nat.le_of_ble_eq_true rfl⟩ (Nat.le_of_ble_eq_true rfl) (fun H locs hM hS => ?_)
      have hM := hR.eq hM putD_putD
      have hW := MdAt.put (g := g) (M := M) (m := q) (md := (up2 (up2 md 7 19 0) 7 19 1))
      exact k_iret hc hr dX6_clearIn_26 hM hS (Nat.le_of_ble_eq_true rfl) (Nat.le_of_ble_eq_true rfl) (by first | (simp only [eq_self, eq_true c_10, eq_false c_18, eq_self, bM_l, bM_r, rsM_l, rsM_r, seV_l, seV_r, snE_l, snE_r, up1_at, up1_up1, up2_up2, not_false_eq_true, not_true_eq_false, and_true, true_and, and_false, false_and, and_self, ↓reduceIte, or_true, true_or, or_self, or_false, false_or]; done) | (simp only [eq_self, eq_true c_10, eq_false c_18, eq_self, bM_l, bM_r, rsM_l, rsM_r, seV_l, seV_r, snE_l, snE_r, up1_at, up1_up1, up2_up2, not_false_eq_true, not_true_eq_false, and_true, true_and, and_false, false_and, and_self, ↓reduceIte, or_true, true_or, or_self, or_false, false_or]; rfl))
set_option maxHeartbeats 4000000 in
set_option maxRecDepth 100000 in
theorem c_X6_heatIn (l : Launch) (hlf : l.stackTraces = false) (g : GC) (M : HM) (q : Nat) (md : FL) (v : Int32) (hW : MdAt g M q md) (hI : mOk (md 0)) : KM g l yX6_heatIn cX6_heatIn 2 (some .int) 6 0 0 [.ref q, .int v] M (.inl (some (.int (if inB v 0 47 then mHb (md 0) v else 0)), (putD g M q (up2 md 7 19 (if inB v 0 47 then 0 else 1))))) := by
  refine k_meth hlf (by decide) (Nat.le_of_ble_eq_true rfl) fun p e s m below meth c ls hc hr hnx hM hS hl => ?_
  have hc : Cx g p l s m [.ref q, .int v].toArray meth c cX6_heatIn 2 RX6 := hc
  have hx := hc.1
  have hb := hc.2.1
  have hl : lv_has ls 2 [(0, .ref q), (1, .int v)] := hl
  refine lv_aload_n hx hb dX6_heatIn_0 rfl (lv_at hl 0 rfl) ?_
  refine lv_iconst (v := 0) hx hb dX6_heatIn_1 (by decide) ?_
  refine pt_X6_36 hc dX6_heatIn_2 hM hS hW.o rfl rfl (Nat.le_of_ble_eq_true rfl) (fun H locs hM hS => ?_)
  have hM := hR.eq hM (putD_sc hW 19 (v := 0) md_s19)
  have hW := MdAt.put (g := g) (M := M) (m := q) (md := (up2 md 7 19 0))
  refine lv_iload_n hx hb dX6_heatIn_5 rfl (lv_at hl 1 rfl) ?_
  refine lv_iconst (v := 0) hx hb dX6_heatIn_6 (by decide) ?_
  refine lv_bipush (v := 47) hx hb dX6_heatIn_7 (by decide) ?_
  refine k_S1 hc [.int v, .int 0, .int 47] cw_X6_64 dX6_heatIn_9 (c_X6_in l hlf g _ v 0 47) hM hS hl.1 rfl rfl ⟨Nat.le_of_ble_eq_true rfl, Nat.le_of_ble_eq_true rfl⟩ ⟨Nat.le_of_ble_eq_true rfl, Nat.le_of_ble_eq_true rfl⟩ (Nat.le_of_ble_eq_true rfl) (fun H locs hM hS => ?_)
  refine lv_if_eq (tgt := 23) hx hb dX6_heatIn_12 (by decide) (fun c_12 => ?_) (fun c_12 => ?_)
  · skip
    have c_12 := bI_eq.mp c_12
    refine lv_aload_n hx hb dX6_heatIn_23 rfl (lv_at hl 0 rfl) ?_
    refine lv_iconst (v := 1) hx hb dX6_heatIn_24 (by decide) ?_
    refine k_V1 (v := .int 0) hc [.int 1] cw_X6_61 rfl dX6_heatIn_25 (c_X6_raises l hlf g _ q (up2 md 7 19 0) 1 hW) hW.o hM hS hl.1 rfl rfl ⟨Nat.le_of_ble_eq_true rfl, Nat.le_of_ble_eq_true rfl⟩ ⟨Nat.le_of_ble_eq_true rfl, Nat.le_of_ble_eq_true rfl⟩ (Nat.le_of_ble_eq_true rfl) (fun H locs hM hS => ?_)
    have hM := hR.eq hM putD_putD
    have hW := MdAt.put (g := g) (M := M) (m := q) (md := (up2 (up2 md 7 19 0) 7 19 1))
    exact k_iret hc hr dX6_heatIn_28 hM hS (Nat.le_of_ble_eq_true rfl) (Nat.le_of_ble_eq_true rfl) (by first | (simp only [eq_self, eq_false c_12, eq_self, bM_l, bM_r, rsM_l, rsM_r, seV_l, seV_r, snE_l, snE_r, up1_at, up1_up1, up2_up2, not_false_eq_true, not_true_eq_false, and_true, true_and, and_false, false_and, and_self, ↓reduceIte, or_true, true_or, or_self, or_false, false_or]; done) | (simp only [eq_self, eq_false c_12, eq_self, bM_l, bM_r, rsM_l, rsM_r, seV_l, seV_r, snE_l, snE_r, up1_at, up1_up1, up2_up2, not_false_eq_true, not_true_eq_false, and_true, true_and, and_false, false_and, and_self, ↓reduceIte, or_true, true_or, or_self, or_false, false_or]; rfl))
  · skip
    have c_12 := bI_ne.mp c_12
    refine lv_aload_n hx hb dX6_heatIn_15 rfl (lv_at hl 0 rfl) ?_
    refine lv_iload_n hx hb dX6_heatIn_16 rfl (lv_at hl 1 rfl) ?_
    refine k_V1 (v := .int (mHb (md 0) v)) hc [.int v] cw_X6_88 rfl dX6_heatIn_17 (c_X6_heatBehind l hlf g _ q (up2 md 7 19 0) v hW) hW.o hM hS hl.1 rfl rfl ⟨Nat.le_of_ble_eq_true rfl, Nat.le_of_ble_eq_true rfl⟩ ⟨Nat.le_of_ble_eq_true rfl, Nat.le_of_ble_eq_true rfl⟩ (Nat.le_of_ble_eq_true rfl) (fun H locs hM hS => ?_)
    refine lv_goto (tgt := 28) hx hb dX6_heatIn_20 (by decide) ?_
    exact k_iret hc hr dX6_heatIn_28 hM hS (Nat.le_of_ble_eq_true rfl) (Nat.le_of_ble_eq_true rfl) (by first | (simp only [eq_self, eq_true c_12, eq_self, bM_l, bM_r, rsM_l, rsM_r, seV_l, seV_r, snE_l, snE_r, up1_at, up1_up1, up2_up2, not_false_eq_true, not_true_eq_false, and_true, true_and, and_false, false_and, and_self, ↓reduceIte, or_true, true_or, or_self, or_false, false_or]; done) | (simp only [eq_self, eq_true c_12, eq_self, bM_l, bM_r, rsM_l, rsM_r, seV_l, seV_r, snE_l, snE_r, up1_at, up1_up1, up2_up2, not_false_eq_true, not_true_eq_false, and_true, true_and, and_false, false_and, and_self, ↓reduceIte, or_true, true_or, or_self, or_false, false_or]; rfl))
set_option maxHeartbeats 4000000 in
set_option maxRecDepth 100000 in
theorem c_X6_lostIn (l : Launch) (hlf : l.stackTraces = false) (g : GC) (M : HM) (q : Nat) (md : FL) (v : Int32) (hW : MdAt g M q md) (hI : mOk (md 0)) : KM g l yX6_lostIn cX6_lostIn 4 (some .int) 6 0 0 [.ref q, .int v] M (.inl (some (.int (if inB v 0 (md 0 5 - 1) then (if 20 ≤ (liM (md 0) 48 0 (mC (md 0) v 1)).1 then (liM (md 0) 48 0 (mC (md 0) v 1)).2 else 0) else 0)), (putD g M q (up2 md 7 19 (if inB v 0 (md 0 5 - 1) then (if 20 ≤ (liM (md 0) 48 0 (mC (md 0) v 1)).1 then 0 else 2) else 1))))) := by
  refine k_meth hlf (by decide) (Nat.le_of_ble_eq_true rfl) fun p e s m below meth c ls hc hr hnx hM hS hl => ?_
  have hc : Cx g p l s m [.ref q, .int v].toArray meth c cX6_lostIn 4 RX6 := hc
  have hx := hc.1
  have hb := hc.2.1
  have hl : lv_has ls 4 [(0, .ref q), (1, .int v)] := hl
  refine lv_aload_n hx hb dX6_lostIn_0 rfl (lv_at hl 0 rfl) ?_
  refine lv_iconst (v := 0) hx hb dX6_lostIn_1 (by decide) ?_
  refine pt_X6_36 hc dX6_lostIn_2 hM hS hW.o rfl rfl (Nat.le_of_ble_eq_true rfl) (fun H locs hM hS => ?_)
  have hM := hR.eq hM (putD_sc hW 19 (v := 0) md_s19)
  have hW := MdAt.put (g := g) (M := M) (m := q) (md := (up2 md 7 19 0))
  refine lv_aload_n hx hb dX6_lostIn_5 rfl (lv_at hl 0 rfl) ?_
  refine lv_iload_n hx hb dX6_lostIn_6 rfl (lv_at hl 1 rfl) ?_
  refine k_V1 (v := .int (bI (inB v 0 ((md 0) 5 - 1)))) hc [.int v] cw_X6_141 rfl dX6_lostIn_7 (c_X6_isCamel l hlf g _ q (up2 md 7 19 0) v hW) hW.o hM hS hl.1 rfl rfl ⟨Nat.le_of_ble_eq_true rfl, Nat.le_of_ble_eq_true rfl⟩ ⟨Nat.le_of_ble_eq_true rfl, Nat.le_of_ble_eq_true rfl⟩ (Nat.le_of_ble_eq_true rfl) (fun H locs hM hS => ?_)
  refine lv_if_ne (tgt := 19) hx hb dX6_lostIn_10 (by decide) (fun c_10 => ?_) (fun c_10 => ?_)
  · skip
    have c_10 := bI_ne.mp c_10
    have ok_10 := isC_ok (f := md 0) hI c_10
    refine lv_aload_n hx hb dX6_lostIn_19 rfl (lv_at hl 0 rfl) ?_
    refine lv_iload_n hx hb dX6_lostIn_20 rfl (lv_at hl 1 rfl) ?_
    refine lv_iconst (v := 1) hx hb dX6_lostIn_21 (by decide) ?_
    refine k_V1 (v := .int (mC (md 0) v 1)) hc [.int v, .int 1] cw_X6_68 rfl dX6_lostIn_22 (c_X6_ofCamel l hlf g _ q (up2 md 7 19 0) v 1 hW (by first | assumption | decide) (by first | assumption | decide)) hW.o hM hS hl.1 rfl rfl ⟨Nat.le_of_ble_eq_true rfl, Nat.le_of_ble_eq_true rfl⟩ ⟨Nat.le_of_ble_eq_true rfl, Nat.le_of_ble_eq_true rfl⟩ (Nat.le_of_ble_eq_true rfl) (fun H locs hM hS => ?_)
    refine lv_istore_n (lv' := [(2, .int (mC (md 0) v 1)), (0, .ref q), (1, .int v)]) hx hb dX6_lostIn_25 rfl hl (by decide) rfl (fun ls hl => ?_)
    refine lv_iconst (v := 0) hx hb dX6_lostIn_26 (by decide) ?_
    refine lv_istore_n (lv' := [(3, .int 0), (2, .int (mC (md 0) v 1)), (0, .ref q), (1, .int v)]) hx hb dX6_lostIn_27 rfl hl (by decide) rfl (fun ls hl => ?_)
    have lp_28 : ∀ (D k : Nat) (u : Int32), 48 - k < D → k ≤ 48 → ((liM (md 0) 48 0 (mC (md 0) v 1)) = liM (md 0) (48 - k) k u) → ∀ (ls : Array Slot) (H : Heap) (locs : List Loc), hR g (putD g M q (up2 md 7 19 0)) H → va_S (gA g) s.heap H locs → lv_has ls 4 [(3, .int (nI k)), (2, .int u), (0, .ref q), (1, .int v)] → W p l e (rmOf 6 0 0) s m [.ref q, .int v].toArray below meth c H locs 0 0 (vx_MQ below (KQ g (.inl (some (.int (if inB v 0 (md 0 5 - 1) then (if 20 ≤ (liM (md 0) 48 0 (mC (md 0) v 1)).1 then (liM (md 0) 48 0 (mC (md 0) v 1)).2 else 0) else 0)), (putD g M q (up2 md 7 19 (if inB v 0 (md 0 5 - 1) then (if 20 ≤ (liM (md 0) 48 0 (mC (md 0) v 1)).1 then 0 else 2) else 1)))))) (KX g (.inl (some (.int (if inB v 0 (md 0 5 - 1) then (if 20 ≤ (liM (md 0) 48 0 (mC (md 0) v 1)).1 then (liM (md 0) 48 0 (mC (md 0) v 1)).2 else 0) else 0)), (putD g M q (up2 md 7 19 (if inB v 0 (md 0 5 - 1) then (if 20 ≤ (liM (md 0) 48 0 (mC (md 0) v 1)).1 then 0 else 2) else 1)))))) [.ref q, .int v].toArray s 0 0 (gA g)) (F0 m 28 ls []) := by
      intro D
      induction D with
      | zero => intro k u hD; exact absurd hD (Nat.not_lt_zero _)
      | succ D ih_28 =>
        intro k u hD hk hq ls H locs hM hS hl
        refine lv_iload_n hx hb dX6_lostIn_28 rfl (lv_at hl 1 rfl) ?_
        refine lv_bipush (v := 20) hx hb dX6_lostIn_29 (by decide) ?_
        refine lv_icmp_ge (tgt := 56) hx hb dX6_lostIn_31 (by decide) (fun c_31 => ?_) (fun c_31 => ?_)
        · skip
          have hf : (liM (md 0) 48 0 (mC (md 0) v 1)) = (u, nI k) := hq.trans (by rcases Nat.lt_or_ge k 48 with z | z; (rw [show 48 - k = (48 - (k + 1)) + 1 by omega]; exact if_pos c_31); (rw [show 48 - k = 0 by omega]; rfl))
          have hf : liM (md 0) 48 0 (mC (md 0) v 1) = (u, nI k) := hf
          refine lv_iload_n hx hb dX6_lostIn_56 rfl (lv_at hl 1 rfl) ?_
          refine lv_bipush (v := 20) hx hb dX6_lostIn_57 (by decide) ?_
          refine lv_icmp_ge (tgt := 70) hx hb dX6_lostIn_59 (by decide) (fun c_59 => ?_) (fun c_59 => ?_)
          · skip
            refine lv_iload_n hx hb dX6_lostIn_70 rfl (lv_at hl 0 rfl) ?_
            exact k_iret hc hr dX6_lostIn_71 hM hS (Nat.le_of_ble_eq_true rfl) (Nat.le_of_ble_eq_true rfl) (by first | (simp only [eq_self, eq_true c_10, eq_true c_31, hf, eq_true c_59, eq_self, bM_l, bM_r, rsM_l, rsM_r, seV_l, seV_r, snE_l, snE_r, up1_at, up1_up1, up2_up2, not_false_eq_true, not_true_eq_false, and_true, true_and, and_false, false_and, and_self, ↓reduceIte, or_true, true_or, or_self, or_false, false_or]; done) | (simp only [eq_self, eq_true c_10, eq_true c_31, hf, eq_true c_59, eq_self, bM_l, bM_r, rsM_l, rsM_r, seV_l, seV_r, snE_l, snE_r, up1_at, up1_up1, up2_up2, not_false_eq_true, not_true_eq_false, and_true, true_and, and_false, false_and, and_self, ↓reduceIte, or_true, true_or, or_self, or_false, false_or]; rfl))
          · skip
            first | exact absurd c_31 c_59 | exact absurd c_59 c_31
        · skip
          refine lv_iload_n hx hb dX6_lostIn_34 rfl (lv_at hl 0 rfl) ?_
          refine lv_bipush (v := 48) hx hb dX6_lostIn_35 (by decide) ?_
          refine lv_icmp_ge (tgt := 56) hx hb dX6_lostIn_37 (by decide) (fun c_37 => ?_) (fun c_37 => ?_)
          · skip
            have c_37 := (k_leL (b := 48) rfl (by decide) (by omega)).mp c_37
            have hf : (liM (md 0) 48 0 (mC (md 0) v 1)) = (u, nI k) := hq.trans (by rw [show 48 - k = 0 by omega]; rfl)
            have hf : liM (md 0) 48 0 (mC (md 0) v 1) = (u, nI k) := hf
            refine lv_iload_n hx hb dX6_lostIn_56 rfl (lv_at hl 1 rfl) ?_
            refine lv_bipush (v := 20) hx hb dX6_lostIn_57 (by decide) ?_
            refine lv_icmp_ge (tgt := 70) hx hb dX6_lostIn_59 (by decide) (fun c_59 => ?_) (fun c_59 => ?_)
            · skip
              first | exact absurd c_31 c_59 | exact absurd c_59 c_31
            · skip
              refine lv_aload_n hx hb dX6_lostIn_62 rfl (lv_at hl 2 rfl) ?_
              refine lv_iconst (v := 2) hx hb dX6_lostIn_63 (by decide) ?_
              refine k_V1 (v := .int 0) hc [.int 2] cw_X6_61 rfl dX6_lostIn_64 (c_X6_raises l hlf g _ q (up2 md 7 19 0) 2 hW) hW.o hM hS hl.1 rfl rfl ⟨Nat.le_of_ble_eq_true rfl, Nat.le_of_ble_eq_true rfl⟩ ⟨Nat.le_of_ble_eq_true rfl, Nat.le_of_ble_eq_true rfl⟩ (Nat.le_of_ble_eq_true rfl) (fun H locs hM hS => ?_)
              have hM := hR.eq hM putD_putD
              have hW := MdAt.put (g := g) (M := M) (m := q) (md := (up2 (up2 md 7 19 0) 7 19 2))
              refine lv_goto (tgt := 71) hx hb dX6_lostIn_67 (by decide) ?_
              exact k_iret hc hr dX6_lostIn_71 hM hS (Nat.le_of_ble_eq_true rfl) (Nat.le_of_ble_eq_true rfl) (by first | (simp only [eq_self, eq_true c_10, eq_false c_31, hf, eq_false c_59, eq_self, bM_l, bM_r, rsM_l, rsM_r, seV_l, seV_r, snE_l, snE_r, up1_at, up1_up1, up2_up2, not_false_eq_true, not_true_eq_false, and_true, true_and, and_false, false_and, and_self, ↓reduceIte, or_true, true_or, or_self, or_false, false_or]; done) | (simp only [eq_self, eq_true c_10, eq_false c_31, hf, eq_false c_59, eq_self, bM_l, bM_r, rsM_l, rsM_r, seV_l, seV_r, snE_l, snE_r, up1_at, up1_up1, up2_up2, not_false_eq_true, not_true_eq_false, and_true, true_and, and_false, false_and, and_self, ↓reduceIte, or_true, true_or, or_self, or_false, false_or]; rfl))
          · skip
            have c_37 : ¬ 48 ≤ k := fun h => c_37 ((k_leL (b := 48) rfl (by decide) (by omega)).mpr h)
            refine lv_iload_n hx hb dX6_lostIn_40 rfl (lv_at hl 1 rfl) ?_
            refine lv_aload_n hx hb dX6_lostIn_41 rfl (lv_at hl 2 rfl) ?_
            refine lv_iload_n hx hb dX6_lostIn_42 rfl (lv_at hl 0 rfl) ?_
            refine lv_iinc (v := (nI (k + 1))) (lv' := [(3, .int (nI (k + 1))), (2, .int u), (0, .ref q), (1, .int v)]) hx hb dX6_lostIn_43 hl (k := 0) rfl (k_inc1 _) (by decide) rfl (fun ls hl => ?_)
            refine k_V1 (v := .int (mHb (md 0) (nI k))) hc [.int (nI k)] cw_X6_88 rfl dX6_lostIn_46 (c_X6_heatBehind l hlf g _ q (up2 md 7 19 0) (nI k) hW) hW.o hM hS hl.1 rfl rfl ⟨Nat.le_of_ble_eq_true rfl, Nat.le_of_ble_eq_true rfl⟩ ⟨Nat.le_of_ble_eq_true rfl, Nat.le_of_ble_eq_true rfl⟩ (Nat.le_of_ble_eq_true rfl) (fun H locs hM hS => ?_)
            refine lv_iconst (v := 4) hx hb dX6_lostIn_49 (by decide) ?_
            refine lv_idiv hx hb dX6_lostIn_50 (by decide) ?_
            refine lv_iadd hx hb dX6_lostIn_51 ?_
            refine lv_istore_n (lv' := [(2, .int (u + ((mHb (md 0) (nI k)) / 4))), (3, .int (nI (k + 1))), (0, .ref q), (1, .int v)]) hx hb dX6_lostIn_52 rfl hl (by decide) rfl (fun ls hl => ?_)
            refine lv_goto (tgt := 28) hx hb dX6_lostIn_53 (by decide) ?_
            have z_2 : (u + ((mHb (md 0) (nI k)) / 4)) = (u + mHb (md 0) (nI k) / 4) := rfl
            have hl := lv_chg (lv_sub hl [0, 1, 2, 3] rfl) z_2
            exact ih_28 (k + 1) (u + mHb (md 0) (nI k) / 4) (by omega) (by omega) (hq.trans (by rw [show 48 - k = (48 - (k + 1)) + 1 by omega]; exact if_neg c_31)) ls _ _ hM hS (lv_sub hl [1, 0, 2, 3] rfl)
    have z_3 : 0 = (nI 0) := rfl
    have hl := lv_chg (lv_sub hl [0, 1, 2, 3] rfl) z_3
    exact lp_28 (48 + 1) 0 (mC (md 0) v 1) (by omega) (by omega) rfl ls _ _ hM hS (lv_sub hl [0, 1, 2, 3] rfl)
  · skip
    have c_10 := bI_eq.mp c_10
    refine lv_aload_n hx hb dX6_lostIn_13 rfl (lv_at hl 0 rfl) ?_
    refine lv_iconst (v := 1) hx hb dX6_lostIn_14 (by decide) ?_
    refine k_V1 (v := .int 0) hc [.int 1] cw_X6_61 rfl dX6_lostIn_15 (c_X6_raises l hlf g _ q (up2 md 7 19 0) 1 hW) hW.o hM hS hl.1 rfl rfl ⟨Nat.le_of_ble_eq_true rfl, Nat.le_of_ble_eq_true rfl⟩ ⟨Nat.le_of_ble_eq_true rfl, Nat.le_of_ble_eq_true rfl⟩ (Nat.le_of_ble_eq_true rfl) (fun H locs hM hS => ?_)
    have hM := hR.eq hM putD_putD
    have hW := MdAt.put (g := g) (M := M) (m := q) (md := (up2 (up2 md 7 19 0) 7 19 1))
    exact k_iret hc hr dX6_lostIn_18 hM hS (Nat.le_of_ble_eq_true rfl) (Nat.le_of_ble_eq_true rfl) (by first | (simp only [eq_self, eq_false c_10, eq_self, bM_l, bM_r, rsM_l, rsM_r, seV_l, seV_r, snE_l, snE_r, up1_at, up1_up1, up2_up2, not_false_eq_true, not_true_eq_false, and_true, true_and, and_false, false_and, and_self, ↓reduceIte, or_true, true_or, or_self, or_false, false_or]; done) | (simp only [eq_self, eq_false c_10, eq_self, bM_l, bM_r, rsM_l, rsM_r, seV_l, seV_r, snE_l, snE_r, up1_at, up1_up1, up2_up2, not_false_eq_true, not_true_eq_false, and_true, true_and, and_false, false_and, and_self, ↓reduceIte, or_true, true_or, or_self, or_false, false_or]; rfl))
set_option maxHeartbeats 4000000 in
set_option maxRecDepth 100000 in
theorem c_X6_nearest (l : Launch) (hlf : l.stackTraces = false) (g : GC) (M : HM) (q : Nat) (md : FL) (v : Int32) (hW : MdAt g M q md) (hI : mOk (md 0)) : KM g l yX6_nearest cX6_nearest 5 (some .int) 5 0 0 [.ref q, .int v] M (.inl (some (.int (if inB v 0 99 then (if md 0 5 = 0 then 0 else itr (naS (md 0) v) 0 ((md 0 5).toNatClampNeg - 1)) else 0)), (putD g M q (up2 md 7 19 (if inB v 0 99 then (if md 0 5 = 0 then 2 else 0) else 1))))) := by
  refine k_meth hlf (by decide) (Nat.le_of_ble_eq_true rfl) fun p e s m below meth c ls hc hr hnx hM hS hl => ?_
  have hc : Cx g p l s m [.ref q, .int v].toArray meth c cX6_nearest 5 RX6 := hc
  have hx := hc.1
  have hb := hc.2.1
  have hl : lv_has ls 5 [(0, .ref q), (1, .int v)] := hl
  refine lv_aload_n hx hb dX6_nearest_0 rfl (lv_at hl 0 rfl) ?_
  refine lv_iconst (v := 0) hx hb dX6_nearest_1 (by decide) ?_
  refine pt_X6_36 hc dX6_nearest_2 hM hS hW.o rfl rfl (Nat.le_of_ble_eq_true rfl) (fun H locs hM hS => ?_)
  have hM := hR.eq hM (putD_sc hW 19 (v := 0) md_s19)
  have hW := MdAt.put (g := g) (M := M) (m := q) (md := (up2 md 7 19 0))
  refine lv_iload_n hx hb dX6_nearest_5 rfl (lv_at hl 1 rfl) ?_
  refine lv_iconst (v := 0) hx hb dX6_nearest_6 (by decide) ?_
  refine lv_bipush (v := 99) hx hb dX6_nearest_7 (by decide) ?_
  refine k_S1 hc [.int v, .int 0, .int 99] cw_X6_64 dX6_nearest_9 (c_X6_in l hlf g _ v 0 99) hM hS hl.1 rfl rfl ⟨Nat.le_of_ble_eq_true rfl, Nat.le_of_ble_eq_true rfl⟩ ⟨Nat.le_of_ble_eq_true rfl, Nat.le_of_ble_eq_true rfl⟩ (Nat.le_of_ble_eq_true rfl) (fun H locs hM hS => ?_)
  refine lv_if_ne (tgt := 21) hx hb dX6_nearest_12 (by decide) (fun c_12 => ?_) (fun c_12 => ?_)
  · skip
    have c_12 := bI_ne.mp c_12
    refine lv_aload_n hx hb dX6_nearest_21 rfl (lv_at hl 0 rfl) ?_
    refine gt_X6_9 hc dX6_nearest_22 hM hW.o rfl ?_
    refine lv_iconst (v := 5) hx hb dX6_nearest_25 (by decide) ?_
    refine k_ialdN hc hM (n := 81) (show (putD g M q (up2 md 7 19 0)) (q + 1) = some (.inl (gI g, 81, .inl (md 0))) from (hW.ar 0 (by decide) (by decide) rfl rfl)) (X := 5) rfl (by omega) (by decide) dX6_nearest_26 ?_
    refine lv_if_ne (tgt := 36) hx hb dX6_nearest_27 (by decide) (fun c_27 => ?_) (fun c_27 => ?_)
    · skip
      refine lv_iconst (v := 0) hx hb dX6_nearest_36 (by decide) ?_
      refine lv_istore_n (lv' := [(2, .int 0), (0, .ref q), (1, .int v)]) hx hb dX6_nearest_37 rfl hl (by decide) rfl (fun ls hl => ?_)
      refine lv_iconst (v := 1) hx hb dX6_nearest_38 (by decide) ?_
      refine lv_istore_n (lv' := [(3, .int 1), (2, .int 0), (0, .ref q), (1, .int v)]) hx hb dX6_nearest_39 rfl hl (by decide) rfl (fun ls hl => ?_)
      have lp_40 : ∀ (D k : Nat), ((md 0 5).toNatClampNeg - 1) - k < D → k ≤ ((md 0 5).toNatClampNeg - 1) → ∀ (ls : Array Slot) (H : Heap) (locs : List Loc), hR g (putD g M q (up2 md 7 19 0)) H → va_S (gA g) s.heap H locs → lv_has ls 5 [(3, .int (nI (k + 1))), (2, .int (itr (naS (md 0) v) 0 k)), (0, .ref q), (1, .int v)] → W p l e (rmOf 5 0 0) s m [.ref q, .int v].toArray below meth c H locs 0 0 (vx_MQ below (KQ g (.inl (some (.int (if inB v 0 99 then (if md 0 5 = 0 then 0 else itr (naS (md 0) v) 0 ((md 0 5).toNatClampNeg - 1)) else 0)), (putD g M q (up2 md 7 19 (if inB v 0 99 then (if md 0 5 = 0 then 2 else 0) else 1)))))) (KX g (.inl (some (.int (if inB v 0 99 then (if md 0 5 = 0 then 0 else itr (naS (md 0) v) 0 ((md 0 5).toNatClampNeg - 1)) else 0)), (putD g M q (up2 md 7 19 (if inB v 0 99 then (if md 0 5 = 0 then 2 else 0) else 1)))))) [.ref q, .int v].toArray s 0 0 (gA g)) (F0 m 40 ls []) := by
        intro D
        induction D with
        | zero => intro k hD; exact absurd hD (Nat.not_lt_zero _)
        | succ D ih_40 =>
          intro k hD hk ls H locs hM hS hl
          refine lv_iload_n hx hb dX6_nearest_40 rfl (lv_at hl 0 rfl) ?_
          refine lv_aload_n hx hb dX6_nearest_41 rfl (lv_at hl 2 rfl) ?_
          refine gt_X6_9 hc dX6_nearest_42 hM hW.o rfl ?_
          refine lv_iconst (v := 5) hx hb dX6_nearest_45 (by decide) ?_
          refine k_ialdN hc hM (n := 81) (show (putD g M q (up2 md 7 19 0)) (q + 1) = some (.inl (gI g, 81, .inl (md 0))) from (hW.ar 0 (by decide) (by decide) rfl rfl)) (X := 5) rfl (by omega) (by decide) dX6_nearest_46 ?_
          refine lv_icmp_ge (tgt := 108) hx hb dX6_nearest_47 (by decide) (fun c_47 => ?_) (fun c_47 => ?_)
          · skip
            have c_47 : (md 0 5).toNatClampNeg ≤ k + 1 := (k_le (k := k + 1) (by have := k_clamp_lt (md 0 5); omega)).mp c_47
            have z_2 : (itr (naS (md 0) v) 0 k) = (itr (naS (md 0) v) 0 ((md 0 5).toNatClampNeg - 1)) := (by rw [show k = (md 0 5).toNatClampNeg - 1 by omega])
            have hl := lv_chg (lv_sub hl [1, 0, 2, 3] rfl) z_2
            refine lv_iload_n hx hb dX6_nearest_108 rfl (lv_at hl 0 rfl) ?_
            exact k_iret hc hr dX6_nearest_109 hM hS (Nat.le_of_ble_eq_true rfl) (Nat.le_of_ble_eq_true rfl) (by first | (simp only [eq_self, eq_true c_12, eq_false c_27, eq_self, bM_l, bM_r, rsM_l, rsM_r, seV_l, seV_r, snE_l, snE_r, up1_at, up1_up1, up2_up2, not_false_eq_true, not_true_eq_false, and_true, true_and, and_false, false_and, and_self, ↓reduceIte, or_true, true_or, or_self, or_false, false_or]; done) | (simp only [eq_self, eq_true c_12, eq_false c_27, eq_self, bM_l, bM_r, rsM_l, rsM_r, seV_l, seV_r, snE_l, snE_r, up1_at, up1_up1, up2_up2, not_false_eq_true, not_true_eq_false, and_true, true_and, and_false, false_and, and_self, ↓reduceIte, or_true, true_or, or_self, or_false, false_or]; rfl))
          · skip
            have c_47 : ¬ (md 0 5).toNatClampNeg ≤ k + 1 := fun h => c_47 ((k_le (k := k + 1) (by have := k_clamp_lt (md 0 5); omega)).mpr h)
            have ok_47 := kC_ok (f := md 0) hI c_47
            have ok_47b := naS_ok (f := md 0) (p := v) hI k (by omega)
            refine lv_aload_n hx hb dX6_nearest_50 rfl (lv_at hl 2 rfl) ?_
            refine lv_iload_n hx hb dX6_nearest_51 rfl (lv_at hl 1 rfl) ?_
            refine lv_iconst (v := 0) hx hb dX6_nearest_52 (by decide) ?_
            refine k_V1 (v := .int (mC (md 0) (itr (naS (md 0) v) 0 k) 0)) hc [.int (itr (naS (md 0) v) 0 k), .int 0] cw_X6_68 rfl dX6_nearest_53 (c_X6_ofCamel l hlf g _ q (up2 md 7 19 0) (itr (naS (md 0) v) 0 k) 0 hW (by first | assumption | decide) (by first | assumption | decide)) hW.o hM hS hl.1 rfl rfl ⟨Nat.le_of_ble_eq_true rfl, Nat.le_of_ble_eq_true rfl⟩ ⟨Nat.le_of_ble_eq_true rfl, Nat.le_of_ble_eq_true rfl⟩ (Nat.le_of_ble_eq_true rfl) (fun H locs hM hS => ?_)
            refine lv_iload_n hx hb dX6_nearest_56 rfl (lv_at hl 3 rfl) ?_
            refine lv_isub hx hb dX6_nearest_57 ?_
            refine k_abs hc q_X6_94 dX6_nearest_58 hl.1 ⟨Nat.le_of_ble_eq_true rfl, Nat.le_of_ble_eq_true rfl, Nat.le_of_ble_eq_true rfl, Nat.le_of_ble_eq_true rfl⟩ ?_
            refine lv_aload_n hx hb dX6_nearest_61 rfl (lv_at hl 2 rfl) ?_
            refine lv_iload_n hx hb dX6_nearest_62 rfl (lv_at hl 0 rfl) ?_
            refine lv_iconst (v := 0) hx hb dX6_nearest_63 (by decide) ?_
            refine k_V1 (v := .int (mC (md 0) (nI (k + 1)) 0)) hc [.int (nI (k + 1)), .int 0] cw_X6_68 rfl dX6_nearest_64 (c_X6_ofCamel l hlf g _ q (up2 md 7 19 0) (nI (k + 1)) 0 hW (by first | assumption | decide) (by first | assumption | decide)) hW.o hM hS hl.1 rfl rfl ⟨Nat.le_of_ble_eq_true rfl, Nat.le_of_ble_eq_true rfl⟩ ⟨Nat.le_of_ble_eq_true rfl, Nat.le_of_ble_eq_true rfl⟩ (Nat.le_of_ble_eq_true rfl) (fun H locs hM hS => ?_)
            refine lv_iload_n hx hb dX6_nearest_67 rfl (lv_at hl 3 rfl) ?_
            refine lv_isub hx hb dX6_nearest_68 ?_
            refine k_abs hc q_X6_94 dX6_nearest_69 hl.1 ⟨Nat.le_of_ble_eq_true rfl, Nat.le_of_ble_eq_true rfl, Nat.le_of_ble_eq_true rfl, Nat.le_of_ble_eq_true rfl⟩ ?_
            refine lv_isub hx hb dX6_nearest_72 ?_
            refine lv_istore (lv' := [(4, .int ((absI ((mC (md 0) (itr (naS (md 0) v) 0 k) 0) - v)) - (absI ((mC (md 0) (nI (k + 1)) 0) - v)))), (3, .int (nI (k + 1))), (2, .int (itr (naS (md 0) v) 0 k)), (0, .ref q), (1, .int v)]) hx hb dX6_nearest_73 hl (by decide) rfl (fun ls hl => ?_)
            refine lv_iload hx hb dX6_nearest_75 (lv_at hl 0 rfl) ?_
            refine lv_if_gt (tgt := 100) hx hb dX6_nearest_77 (by decide) (fun c_77 => ?_) (fun c_77 => ?_)
            · skip
              refine lv_iload_n hx hb dX6_nearest_100 rfl (lv_at hl 1 rfl) ?_
              refine lv_istore_n (lv' := [(2, .int (nI (k + 1))), (4, .int ((absI ((mC (md 0) (itr (naS (md 0) v) 0 k) 0) - v)) - (absI ((mC (md 0) (nI (k + 1)) 0) - v)))), (3, .int (nI (k + 1))), (0, .ref q), (1, .int v)]) hx hb dX6_nearest_101 rfl hl (by decide) rfl (fun ls hl => ?_)
              refine lv_iinc (v := (nI ((k + 1) + 1))) (lv' := [(3, .int (nI ((k + 1) + 1))), (2, .int (nI (k + 1))), (4, .int ((absI ((mC (md 0) (itr (naS (md 0) v) 0 k) 0) - v)) - (absI ((mC (md 0) (nI (k + 1)) 0) - v)))), (0, .ref q), (1, .int v)]) hx hb dX6_nearest_102 hl (k := 2) rfl (k_inc1 _) (by decide) rfl (fun ls hl => ?_)
              refine lv_goto (tgt := 40) hx hb dX6_nearest_105 (by decide) ?_
              have z_2 : (nI (k + 1)) = (itr (naS (md 0) v) 0 (k + 1)) := (by rw [itr_s]; simp only [naS, eq_true c_12, eq_false c_27, eq_false c_47, eq_true c_77, not_false_eq_true, not_true_eq_false, and_true, true_and, and_false, false_and, and_self, ↓reduceIte, or_true, true_or, or_self, or_false, false_or])
              have hl := lv_chg (lv_sub hl [1, 0, 2, 3, 4] rfl) z_2
              exact ih_40 (k + 1) (by omega) (by omega) ls _ _ hM hS (lv_sub hl [1, 0, 3, 4] rfl)
            · skip
              refine lv_iload hx hb dX6_nearest_80 (lv_at hl 0 rfl) ?_
              refine lv_if_ne (tgt := 102) hx hb dX6_nearest_82 (by decide) (fun c_82 => ?_) (fun c_82 => ?_)
              · skip
                refine lv_iinc (v := (nI ((k + 1) + 1))) (lv' := [(3, .int (nI ((k + 1) + 1))), (4, .int ((absI ((mC (md 0) (itr (naS (md 0) v) 0 k) 0) - v)) - (absI ((mC (md 0) (nI (k + 1)) 0) - v)))), (2, .int (itr (naS (md 0) v) 0 k)), (0, .ref q), (1, .int v)]) hx hb dX6_nearest_102 hl (k := 1) rfl (k_inc1 _) (by decide) rfl (fun ls hl => ?_)
                refine lv_goto (tgt := 40) hx hb dX6_nearest_105 (by decide) ?_
                have z_2 : (itr (naS (md 0) v) 0 k) = (itr (naS (md 0) v) 0 (k + 1)) := (by rw [itr_s]; simp only [naS, eq_true c_12, eq_false c_27, eq_false c_47, eq_false c_77, eq_false c_82, not_false_eq_true, not_true_eq_false, and_true, true_and, and_false, false_and, and_self, ↓reduceIte, or_true, true_or, or_self, or_false, false_or])
                have hl := lv_chg (lv_sub hl [2, 0, 1, 3, 4] rfl) z_2
                exact ih_40 (k + 1) (by omega) (by omega) ls _ _ hM hS (lv_sub hl [1, 0, 3, 4] rfl)
              · skip
                refine lv_aload_n hx hb dX6_nearest_85 rfl (lv_at hl 3 rfl) ?_
                refine lv_iload_n hx hb dX6_nearest_86 rfl (lv_at hl 1 rfl) ?_
                refine lv_iconst (v := 1) hx hb dX6_nearest_87 (by decide) ?_
                refine k_V1 (v := .int (mC (md 0) (nI (k + 1)) 1)) hc [.int (nI (k + 1)), .int 1] cw_X6_68 rfl dX6_nearest_88 (c_X6_ofCamel l hlf g _ q (up2 md 7 19 0) (nI (k + 1)) 1 hW (by first | assumption | decide) (by first | assumption | decide)) hW.o hM hS hl.1 rfl rfl ⟨Nat.le_of_ble_eq_true rfl, Nat.le_of_ble_eq_true rfl⟩ ⟨Nat.le_of_ble_eq_true rfl, Nat.le_of_ble_eq_true rfl⟩ (Nat.le_of_ble_eq_true rfl) (fun H locs hM hS => ?_)
                refine lv_aload_n hx hb dX6_nearest_91 rfl (lv_at hl 3 rfl) ?_
                refine lv_iload_n hx hb dX6_nearest_92 rfl (lv_at hl 2 rfl) ?_
                refine lv_iconst (v := 1) hx hb dX6_nearest_93 (by decide) ?_
                refine k_V1 (v := .int (mC (md 0) (itr (naS (md 0) v) 0 k) 1)) hc [.int (itr (naS (md 0) v) 0 k), .int 1] cw_X6_68 rfl dX6_nearest_94 (c_X6_ofCamel l hlf g _ q (up2 md 7 19 0) (itr (naS (md 0) v) 0 k) 1 hW (by first | assumption | decide) (by first | assumption | decide)) hW.o hM hS hl.1 rfl rfl ⟨Nat.le_of_ble_eq_true rfl, Nat.le_of_ble_eq_true rfl⟩ ⟨Nat.le_of_ble_eq_true rfl, Nat.le_of_ble_eq_true rfl⟩ (Nat.le_of_ble_eq_true rfl) (fun H locs hM hS => ?_)
                refine lv_icmp_le (tgt := 102) hx hb dX6_nearest_97 (by decide) (fun c_97 => ?_) (fun c_97 => ?_)
                · skip
                  refine lv_iinc (v := (nI ((k + 1) + 1))) (lv' := [(3, .int (nI ((k + 1) + 1))), (4, .int ((absI ((mC (md 0) (itr (naS (md 0) v) 0 k) 0) - v)) - (absI ((mC (md 0) (nI (k + 1)) 0) - v)))), (2, .int (itr (naS (md 0) v) 0 k)), (0, .ref q), (1, .int v)]) hx hb dX6_nearest_102 hl (k := 1) rfl (k_inc1 _) (by decide) rfl (fun ls hl => ?_)
                  refine lv_goto (tgt := 40) hx hb dX6_nearest_105 (by decide) ?_
                  have z_2 : (itr (naS (md 0) v) 0 k) = (itr (naS (md 0) v) 0 (k + 1)) := (by rw [itr_s]; simp only [naS, eq_true c_12, eq_false c_27, eq_false c_47, eq_false c_77, eq_true c_82, eq_true c_97, not_false_eq_true, not_true_eq_false, and_true, true_and, and_false, false_and, and_self, ↓reduceIte, or_true, true_or, or_self, or_false, false_or])
                  have hl := lv_chg (lv_sub hl [2, 0, 1, 3, 4] rfl) z_2
                  exact ih_40 (k + 1) (by omega) (by omega) ls _ _ hM hS (lv_sub hl [1, 0, 3, 4] rfl)
                · skip
                  refine lv_iload_n hx hb dX6_nearest_100 rfl (lv_at hl 1 rfl) ?_
                  refine lv_istore_n (lv' := [(2, .int (nI (k + 1))), (4, .int ((absI ((mC (md 0) (itr (naS (md 0) v) 0 k) 0) - v)) - (absI ((mC (md 0) (nI (k + 1)) 0) - v)))), (3, .int (nI (k + 1))), (0, .ref q), (1, .int v)]) hx hb dX6_nearest_101 rfl hl (by decide) rfl (fun ls hl => ?_)
                  refine lv_iinc (v := (nI ((k + 1) + 1))) (lv' := [(3, .int (nI ((k + 1) + 1))), (2, .int (nI (k + 1))), (4, .int ((absI ((mC (md 0) (itr (naS (md 0) v) 0 k) 0) - v)) - (absI ((mC (md 0) (nI (k + 1)) 0) - v)))), (0, .ref q), (1, .int v)]) hx hb dX6_nearest_102 hl (k := 2) rfl (k_inc1 _) (by decide) rfl (fun ls hl => ?_)
                  refine lv_goto (tgt := 40) hx hb dX6_nearest_105 (by decide) ?_
                  have z_2 : (nI (k + 1)) = (itr (naS (md 0) v) 0 (k + 1)) := (by rw [itr_s]; simp only [naS, eq_true c_12, eq_false c_27, eq_false c_47, eq_false c_77, eq_true c_82, eq_false c_97, not_false_eq_true, not_true_eq_false, and_true, true_and, and_false, false_and, and_self, ↓reduceIte, or_true, true_or, or_self, or_false, false_or])
                  have hl := lv_chg (lv_sub hl [1, 0, 2, 3, 4] rfl) z_2
                  exact ih_40 (k + 1) (by omega) (by omega) ls _ _ hM hS (lv_sub hl [1, 0, 3, 4] rfl)
      have z_3 : 1 = (nI (0 + 1)) := rfl
      have hl := lv_chg (lv_sub hl [0, 1, 2, 3] rfl) z_3
      have z_2 : 0 = (itr (naS (md 0) v) 0 0) := rfl
      have hl := lv_chg (lv_sub hl [1, 0, 2, 3] rfl) z_2
      exact lp_40 (((md 0 5).toNatClampNeg - 1) + 1) 0 (by omega) (by omega) ls _ _ hM hS (lv_sub hl [1, 0, 2, 3] rfl)
    · skip
      refine lv_aload_n hx hb dX6_nearest_30 rfl (lv_at hl 0 rfl) ?_
      refine lv_iconst (v := 2) hx hb dX6_nearest_31 (by decide) ?_
      refine k_V1 (v := .int 0) hc [.int 2] cw_X6_61 rfl dX6_nearest_32 (c_X6_raises l hlf g _ q (up2 md 7 19 0) 2 hW) hW.o hM hS hl.1 rfl rfl ⟨Nat.le_of_ble_eq_true rfl, Nat.le_of_ble_eq_true rfl⟩ ⟨Nat.le_of_ble_eq_true rfl, Nat.le_of_ble_eq_true rfl⟩ (Nat.le_of_ble_eq_true rfl) (fun H locs hM hS => ?_)
      have hM := hR.eq hM putD_putD
      have hW := MdAt.put (g := g) (M := M) (m := q) (md := (up2 (up2 md 7 19 0) 7 19 2))
      exact k_iret hc hr dX6_nearest_35 hM hS (Nat.le_of_ble_eq_true rfl) (Nat.le_of_ble_eq_true rfl) (by first | (simp only [eq_self, eq_true c_12, eq_true c_27, eq_self, bM_l, bM_r, rsM_l, rsM_r, seV_l, seV_r, snE_l, snE_r, up1_at, up1_up1, up2_up2, not_false_eq_true, not_true_eq_false, and_true, true_and, and_false, false_and, and_self, ↓reduceIte, or_true, true_or, or_self, or_false, false_or]; done) | (simp only [eq_self, eq_true c_12, eq_true c_27, eq_self, bM_l, bM_r, rsM_l, rsM_r, seV_l, seV_r, snE_l, snE_r, up1_at, up1_up1, up2_up2, not_false_eq_true, not_true_eq_false, and_true, true_and, and_false, false_and, and_self, ↓reduceIte, or_true, true_or, or_self, or_false, false_or]; rfl))
  · skip
    have c_12 := bI_eq.mp c_12
    refine lv_aload_n hx hb dX6_nearest_15 rfl (lv_at hl 0 rfl) ?_
    refine lv_iconst (v := 1) hx hb dX6_nearest_16 (by decide) ?_
    refine k_V1 (v := .int 0) hc [.int 1] cw_X6_61 rfl dX6_nearest_17 (c_X6_raises l hlf g _ q (up2 md 7 19 0) 1 hW) hW.o hM hS hl.1 rfl rfl ⟨Nat.le_of_ble_eq_true rfl, Nat.le_of_ble_eq_true rfl⟩ ⟨Nat.le_of_ble_eq_true rfl, Nat.le_of_ble_eq_true rfl⟩ (Nat.le_of_ble_eq_true rfl) (fun H locs hM hS => ?_)
    have hM := hR.eq hM putD_putD
    have hW := MdAt.put (g := g) (M := M) (m := q) (md := (up2 (up2 md 7 19 0) 7 19 1))
    exact k_iret hc hr dX6_nearest_20 hM hS (Nat.le_of_ble_eq_true rfl) (Nat.le_of_ble_eq_true rfl) (by first | (simp only [eq_self, eq_false c_12, eq_self, bM_l, bM_r, rsM_l, rsM_r, seV_l, seV_r, snE_l, snE_r, up1_at, up1_up1, up2_up2, not_false_eq_true, not_true_eq_false, and_true, true_and, and_false, false_and, and_self, ↓reduceIte, or_true, true_or, or_self, or_false, false_or]; done) | (simp only [eq_self, eq_false c_12, eq_self, bM_l, bM_r, rsM_l, rsM_r, seV_l, seV_r, snE_l, snE_r, up1_at, up1_up1, up2_up2, not_false_eq_true, not_true_eq_false, and_true, true_and, and_false, false_and, and_self, ↓reduceIte, or_true, true_or, or_self, or_false, false_or]; rfl))
set_option maxHeartbeats 4000000 in
set_option maxRecDepth 100000 in
theorem c_X6_reason (l : Launch) (hlf : l.stackTraces = false) (g : GC) (M : HM) (q : Nat) (md : FL) (v : Int32) (hW : MdAt g M q md) (hI : mOk (md 0)) : KM g l yX6_reason cX6_reason 2 (some .int) 2 0 0 [.ref q, .int v] M (.inl (some (.int (if inB v 0 2 then (if md 7 14 = 0 then 0 else if v = 0 then md 7 14 else if v = 1 then md 7 15 else md 7 17) else 0)), (putD g M q (up2 md 7 19 (if inB v 0 2 then (if md 7 14 = 0 then 2 else 0) else 1))))) := by
  refine k_meth hlf (by decide) (Nat.le_of_ble_eq_true rfl) fun p e s m below meth c ls hc hr hnx hM hS hl => ?_
  have hc : Cx g p l s m [.ref q, .int v].toArray meth c cX6_reason 2 RX6 := hc
  have hx := hc.1
  have hb := hc.2.1
  have hl : lv_has ls 2 [(0, .ref q), (1, .int v)] := hl
  refine lv_aload_n hx hb dX6_reason_0 rfl (lv_at hl 0 rfl) ?_
  refine lv_iconst (v := 0) hx hb dX6_reason_1 (by decide) ?_
  refine pt_X6_36 hc dX6_reason_2 hM hS hW.o rfl rfl (Nat.le_of_ble_eq_true rfl) (fun H locs hM hS => ?_)
  have hM := hR.eq hM (putD_sc hW 19 (v := 0) md_s19)
  have hW := MdAt.put (g := g) (M := M) (m := q) (md := (up2 md 7 19 0))
  refine lv_iload_n hx hb dX6_reason_5 rfl (lv_at hl 1 rfl) ?_
  refine lv_iconst (v := 0) hx hb dX6_reason_6 (by decide) ?_
  refine lv_iconst (v := 2) hx hb dX6_reason_7 (by decide) ?_
  refine k_S1 hc [.int v, .int 0, .int 2] cw_X6_64 dX6_reason_8 (c_X6_in l hlf g _ v 0 2) hM hS hl.1 rfl rfl ⟨Nat.le_of_ble_eq_true rfl, Nat.le_of_ble_eq_true rfl⟩ ⟨Nat.le_of_ble_eq_true rfl, Nat.le_of_ble_eq_true rfl⟩ (Nat.le_of_ble_eq_true rfl) (fun H locs hM hS => ?_)
  refine lv_if_ne (tgt := 20) hx hb dX6_reason_11 (by decide) (fun c_11 => ?_) (fun c_11 => ?_)
  · skip
    have c_11 := bI_ne.mp c_11
    refine lv_aload_n hx hb dX6_reason_20 rfl (lv_at hl 0 rfl) ?_
    refine gt_X6_45 hc dX6_reason_21 hM hW.o (v := .int (md 7 14)) rfl ?_
    refine lv_if_ne (tgt := 33) hx hb dX6_reason_24 (by decide) (fun c_24 => ?_) (fun c_24 => ?_)
    · skip
      refine lv_iload_n hx hb dX6_reason_33 rfl (lv_at hl 1 rfl) ?_
      refine lv_if_ne (tgt := 44) hx hb dX6_reason_34 (by decide) (fun c_34 => ?_) (fun c_34 => ?_)
      · skip
        refine lv_iload_n hx hb dX6_reason_44 rfl (lv_at hl 1 rfl) ?_
        refine lv_iconst (v := 1) hx hb dX6_reason_45 (by decide) ?_
        refine lv_icmp_ne (tgt := 56) hx hb dX6_reason_46 (by decide) (fun c_46 => ?_) (fun c_46 => ?_)
        · skip
          refine lv_aload_n hx hb dX6_reason_56 rfl (lv_at hl 0 rfl) ?_
          refine gt_X6_51 hc dX6_reason_57 hM hW.o (v := .int (md 7 17)) rfl ?_
          exact k_iret hc hr dX6_reason_60 hM hS (Nat.le_of_ble_eq_true rfl) (Nat.le_of_ble_eq_true rfl) (by first | (simp only [eq_self, eq_true c_11, eq_false c_24, eq_false c_34, eq_false c_46, eq_self, bM_l, bM_r, rsM_l, rsM_r, seV_l, seV_r, snE_l, snE_r, up1_at, up1_up1, up2_up2, not_false_eq_true, not_true_eq_false, and_true, true_and, and_false, false_and, and_self, ↓reduceIte, or_true, true_or, or_self, or_false, false_or]; done) | (simp only [eq_self, eq_true c_11, eq_false c_24, eq_false c_34, eq_false c_46, eq_self, bM_l, bM_r, rsM_l, rsM_r, seV_l, seV_r, snE_l, snE_r, up1_at, up1_up1, up2_up2, not_false_eq_true, not_true_eq_false, and_true, true_and, and_false, false_and, and_self, ↓reduceIte, or_true, true_or, or_self, or_false, false_or]; rfl))
        · skip
          refine lv_aload_n hx hb dX6_reason_49 rfl (lv_at hl 0 rfl) ?_
          refine gt_X6_48 hc dX6_reason_50 hM hW.o (v := .int (md 7 15)) rfl ?_
          refine lv_goto (tgt := 60) hx hb dX6_reason_53 (by decide) ?_
          exact k_iret hc hr dX6_reason_60 hM hS (Nat.le_of_ble_eq_true rfl) (Nat.le_of_ble_eq_true rfl) (by first | (simp only [eq_self, eq_true c_11, eq_false c_24, eq_false c_34, eq_true c_46, eq_self, bM_l, bM_r, rsM_l, rsM_r, seV_l, seV_r, snE_l, snE_r, up1_at, up1_up1, up2_up2, not_false_eq_true, not_true_eq_false, and_true, true_and, and_false, false_and, and_self, ↓reduceIte, or_true, true_or, or_self, or_false, false_or]; done) | (simp only [eq_self, eq_true c_11, eq_false c_24, eq_false c_34, eq_true c_46, eq_self, bM_l, bM_r, rsM_l, rsM_r, seV_l, seV_r, snE_l, snE_r, up1_at, up1_up1, up2_up2, not_false_eq_true, not_true_eq_false, and_true, true_and, and_false, false_and, and_self, ↓reduceIte, or_true, true_or, or_self, or_false, false_or]; rfl))
      · skip
        refine lv_aload_n hx hb dX6_reason_37 rfl (lv_at hl 0 rfl) ?_
        refine gt_X6_45 hc dX6_reason_38 hM hW.o (v := .int (md 7 14)) rfl ?_
        refine lv_goto (tgt := 60) hx hb dX6_reason_41 (by decide) ?_
        exact k_iret hc hr dX6_reason_60 hM hS (Nat.le_of_ble_eq_true rfl) (Nat.le_of_ble_eq_true rfl) (by first | (simp only [eq_self, eq_true c_11, eq_false c_24, eq_true c_34, eq_self, bM_l, bM_r, rsM_l, rsM_r, seV_l, seV_r, snE_l, snE_r, up1_at, up1_up1, up2_up2, not_false_eq_true, not_true_eq_false, and_true, true_and, and_false, false_and, and_self, ↓reduceIte, or_true, true_or, or_self, or_false, false_or]; done) | (simp only [eq_self, eq_true c_11, eq_false c_24, eq_true c_34, eq_self, bM_l, bM_r, rsM_l, rsM_r, seV_l, seV_r, snE_l, snE_r, up1_at, up1_up1, up2_up2, not_false_eq_true, not_true_eq_false, and_true, true_and, and_false, false_and, and_self, ↓reduceIte, or_true, true_or, or_self, or_false, false_or]; rfl))
    · skip
      refine lv_aload_n hx hb dX6_reason_27 rfl (lv_at hl 0 rfl) ?_
      refine lv_iconst (v := 2) hx hb dX6_reason_28 (by decide) ?_
      refine k_V1 (v := .int 0) hc [.int 2] cw_X6_61 rfl dX6_reason_29 (c_X6_raises l hlf g _ q (up2 md 7 19 0) 2 hW) hW.o hM hS hl.1 rfl rfl ⟨Nat.le_of_ble_eq_true rfl, Nat.le_of_ble_eq_true rfl⟩ ⟨Nat.le_of_ble_eq_true rfl, Nat.le_of_ble_eq_true rfl⟩ (Nat.le_of_ble_eq_true rfl) (fun H locs hM hS => ?_)
      have hM := hR.eq hM putD_putD
      have hW := MdAt.put (g := g) (M := M) (m := q) (md := (up2 (up2 md 7 19 0) 7 19 2))
      exact k_iret hc hr dX6_reason_32 hM hS (Nat.le_of_ble_eq_true rfl) (Nat.le_of_ble_eq_true rfl) (by first | (simp only [eq_self, eq_true c_11, eq_true c_24, eq_self, bM_l, bM_r, rsM_l, rsM_r, seV_l, seV_r, snE_l, snE_r, up1_at, up1_up1, up2_up2, not_false_eq_true, not_true_eq_false, and_true, true_and, and_false, false_and, and_self, ↓reduceIte, or_true, true_or, or_self, or_false, false_or]; done) | (simp only [eq_self, eq_true c_11, eq_true c_24, eq_self, bM_l, bM_r, rsM_l, rsM_r, seV_l, seV_r, snE_l, snE_r, up1_at, up1_up1, up2_up2, not_false_eq_true, not_true_eq_false, and_true, true_and, and_false, false_and, and_self, ↓reduceIte, or_true, true_or, or_self, or_false, false_or]; rfl))
  · skip
    have c_11 := bI_eq.mp c_11
    refine lv_aload_n hx hb dX6_reason_14 rfl (lv_at hl 0 rfl) ?_
    refine lv_iconst (v := 1) hx hb dX6_reason_15 (by decide) ?_
    refine k_V1 (v := .int 0) hc [.int 1] cw_X6_61 rfl dX6_reason_16 (c_X6_raises l hlf g _ q (up2 md 7 19 0) 1 hW) hW.o hM hS hl.1 rfl rfl ⟨Nat.le_of_ble_eq_true rfl, Nat.le_of_ble_eq_true rfl⟩ ⟨Nat.le_of_ble_eq_true rfl, Nat.le_of_ble_eq_true rfl⟩ (Nat.le_of_ble_eq_true rfl) (fun H locs hM hS => ?_)
    have hM := hR.eq hM putD_putD
    have hW := MdAt.put (g := g) (M := M) (m := q) (md := (up2 (up2 md 7 19 0) 7 19 1))
    exact k_iret hc hr dX6_reason_19 hM hS (Nat.le_of_ble_eq_true rfl) (Nat.le_of_ble_eq_true rfl) (by first | (simp only [eq_self, eq_false c_11, eq_self, bM_l, bM_r, rsM_l, rsM_r, seV_l, seV_r, snE_l, snE_r, up1_at, up1_up1, up2_up2, not_false_eq_true, not_true_eq_false, and_true, true_and, and_false, false_and, and_self, ↓reduceIte, or_true, true_or, or_self, or_false, false_or]; done) | (simp only [eq_self, eq_false c_11, eq_self, bM_l, bM_r, rsM_l, rsM_r, seV_l, seV_r, snE_l, snE_r, up1_at, up1_up1, up2_up2, not_false_eq_true, not_true_eq_false, and_true, true_and, and_false, false_and, and_self, ↓reduceIte, or_true, true_or, or_self, or_false, false_or]; rfl))
set_option maxHeartbeats 4000000 in
set_option maxRecDepth 100000 in
theorem c_X6_faultPosition (l : Launch) (hlf : l.stackTraces = false) (g : GC) (M : HM) (q : Nat) (md : FL) (hW : MdAt g M q md) : KM g l yX6_faultPosition cX6_faultPosition 1 (some .int) 1 0 0 [.ref q] M (.inl (some (.int (md 7 13)), (putD g M q (up2 md 7 19 0)))) := by
  refine k_meth hlf (by decide) (Nat.le_of_ble_eq_true rfl) fun p e s m below meth c ls hc hr hnx hM hS hl => ?_
  have hc : Cx g p l s m [.ref q].toArray meth c cX6_faultPosition 1 RX6 := hc
  have hx := hc.1
  have hb := hc.2.1
  have hl : lv_has ls 1 [(0, .ref q)] := hl
  refine lv_aload_n hx hb dX6_faultPosition_0 rfl (lv_at hl 0 rfl) ?_
  refine lv_iconst (v := 0) hx hb dX6_faultPosition_1 (by decide) ?_
  refine pt_X6_36 hc dX6_faultPosition_2 hM hS hW.o rfl rfl (Nat.le_of_ble_eq_true rfl) (fun H locs hM hS => ?_)
  have hM := hR.eq hM (putD_sc hW 19 (v := 0) md_s19)
  have hW := MdAt.put (g := g) (M := M) (m := q) (md := (up2 md 7 19 0))
  refine lv_aload_n hx hb dX6_faultPosition_5 rfl (lv_at hl 0 rfl) ?_
  refine gt_X6_32 hc dX6_faultPosition_6 hM hW.o rfl ?_
  exact k_iret hc hr dX6_faultPosition_9 hM hS (Nat.le_of_ble_eq_true rfl) (Nat.le_of_ble_eq_true rfl) (by rfl)
