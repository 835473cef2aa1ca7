/-! the reference, a part -/
set_option maxHeartbeats 4000000 in
set_option maxRecDepth 100000 in
theorem c_X6_stakeAt (l : Launch) (hlf : l.stackTraces = false) (g : GC) (M : HM) (q : Nat) (md : FL) (v : Int32) (hW : MdAt g M q md) (hI : mOk (md 0)) : KM g l yX6_stakeAt cX6_stakeAt 2 (some .int) 3 0 0 [.ref q, .int v] M (.inl (some (.int (if inB v 0 (md 0 2 - 1) then mS (md 0) v else 0)), (putD g M q (up2 md 7 19 (if inB v 0 (md 0 2 - 1) then 0 else 1))))) := by
  refine k_meth hlf (by decide) (Nat.le_of_ble_eq_true rfl) fun p e s m below meth c ls hc hr hnx hM hS hl => ?_
  have hc : Cx g p l s m [.ref q, .int v].toArray meth c cX6_stakeAt 2 RX6 := hc
  have hx := hc.1
  have hb := hc.2.1
  have hl : lv_has ls 2 [(0, .ref q), (1, .int v)] := hl
  refine lv_aload_n hx hb dX6_stakeAt_0 rfl (lv_at hl 0 rfl) ?_
  refine lv_iconst (v := 0) hx hb dX6_stakeAt_1 (by decide) ?_
  refine pt_X6_36 hc dX6_stakeAt_2 hM hS hW.o rfl rfl (Nat.le_of_ble_eq_true rfl) (fun H locs hM hS => ?_)
  have hM := hR.eq hM (putD_sc hW 19 (v := 0) md_s19)
  have hW := MdAt.put (g := g) (M := M) (m := q) (md := (up2 md 7 19 0))
  refine lv_aload_n hx hb dX6_stakeAt_5 rfl (lv_at hl 0 rfl) ?_
  refine lv_iload_n hx hb dX6_stakeAt_6 rfl (lv_at hl 1 rfl) ?_
  refine k_V1 (v := .int (bI (inB v 0 ((md 0) 2 - 1)))) hc [.int v] cw_X6_103 rfl dX6_stakeAt_7 (c_X6_isStake l hlf g _ q (up2 md 7 19 0) v hW) hW.o hM hS hl.1 rfl rfl ⟨Nat.le_of_ble_eq_true rfl, Nat.le_of_ble_eq_true rfl⟩ ⟨Nat.le_of_ble_eq_true rfl, Nat.le_of_ble_eq_true rfl⟩ (Nat.le_of_ble_eq_true rfl) (fun H locs hM hS => ?_)
  refine lv_if_eq (tgt := 25) hx hb dX6_stakeAt_10 (by decide) (fun c_10 => ?_) (fun c_10 => ?_)
  · skip
    have c_10 := bI_eq.mp c_10
    refine lv_aload_n hx hb dX6_stakeAt_25 rfl (lv_at hl 0 rfl) ?_
    refine lv_iconst (v := 1) hx hb dX6_stakeAt_26 (by decide) ?_
    refine k_V1 (v := .int 0) hc [.int 1] cw_X6_61 rfl dX6_stakeAt_27 (c_X6_raises l hlf g _ q (up2 md 7 19 0) 1 hW) hW.o hM hS hl.1 rfl rfl ⟨Nat.le_of_ble_eq_true rfl, Nat.le_of_ble_eq_true rfl⟩ ⟨Nat.le_of_ble_eq_true rfl, Nat.le_of_ble_eq_true rfl⟩ (Nat.le_of_ble_eq_true rfl) (fun H locs hM hS => ?_)
    have hM := hR.eq hM putD_putD
    have hW := MdAt.put (g := g) (M := M) (m := q) (md := (up2 (up2 md 7 19 0) 7 19 1))
    exact k_iret hc hr dX6_stakeAt_30 hM hS (Nat.le_of_ble_eq_true rfl) (Nat.le_of_ble_eq_true rfl) (by first | (simp only [eq_self, eq_false c_10, eq_self, bM_l, bM_r, rsM_l, rsM_r, seV_l, seV_r, snE_l, snE_r, up1_at, up1_up1, up2_up2, not_false_eq_true, not_true_eq_false, and_true, true_and, and_false, false_and, and_self, ↓reduceIte, or_true, true_or, or_self, or_false, false_or]; done) | (simp only [eq_self, eq_false c_10, eq_self, bM_l, bM_r, rsM_l, rsM_r, seV_l, seV_r, snE_l, snE_r, up1_at, up1_up1, up2_up2, not_false_eq_true, not_true_eq_false, and_true, true_and, and_false, false_and, and_self, ↓reduceIte, or_true, true_or, or_self, or_false, false_or]; rfl))
  · skip
    have c_10 := bI_ne.mp c_10
    have ok_10 := isS_ok (f := md 0) hI c_10
    refine lv_aload_n hx hb dX6_stakeAt_13 rfl (lv_at hl 0 rfl) ?_
    refine gt_X6_9 hc dX6_stakeAt_14 hM hW.o rfl ?_
    refine lv_bipush (v := 9) hx hb dX6_stakeAt_17 (by decide) ?_
    refine lv_iload_n hx hb dX6_stakeAt_19 rfl (lv_at hl 1 rfl) ?_
    refine lv_iadd hx hb dX6_stakeAt_20 ?_
    refine k_iald hc hM (show (putD g M q (up2 md 7 19 0)) (q + 1) = some (.inl (gI g, 81, .inl (md 0))) from (hW.ar 0 (by decide) (by decide) rfl rfl)) (inS (by assumption)) dX6_stakeAt_21 ?_
    refine lv_goto (tgt := 30) hx hb dX6_stakeAt_22 (by decide) ?_
    exact k_iret hc hr dX6_stakeAt_30 hM hS (Nat.le_of_ble_eq_true rfl) (Nat.le_of_ble_eq_true rfl) (by first | (simp only [eq_self, eq_true c_10, eq_self, bM_l, bM_r, rsM_l, rsM_r, seV_l, seV_r, snE_l, snE_r, up1_at, up1_up1, up2_up2, not_false_eq_true, not_true_eq_false, and_true, true_and, and_false, false_and, and_self, ↓reduceIte, or_true, true_or, or_self, or_false, false_or]; done) | (simp only [eq_self, eq_true c_10, eq_self, bM_l, bM_r, rsM_l, rsM_r, seV_l, seV_r, snE_l, snE_r, up1_at, up1_up1, up2_up2, not_false_eq_true, not_true_eq_false, and_true, true_and, and_false, false_and, and_self, ↓reduceIte, or_true, true_or, or_self, or_false, false_or]; rfl))
set_option maxHeartbeats 4000000 in
set_option maxRecDepth 100000 in
theorem c_X6_postOf (l : Launch) (hlf : l.stackTraces = false) (g : GC) (M : HM) (q : Nat) (md : FL) (v : Int32) (w : Int32) (hW : MdAt g M q md) (hI : mOk (md 0)) : KM g l yX6_postOf cX6_postOf 3 (some .int) 3 0 0 [.ref q, .int v, .int w] M (.inl (some (.int (if inB v 0 (md 0 3 - 1) then (if w = 0 then mP (md 0) v 0 else mP (md 0) v 1) else 0)), (putD g M q (up2 md 7 19 (if inB v 0 (md 0 3 - 1) then 0 else 1))))) := by
  refine k_meth hlf (by decide) (Nat.le_of_ble_eq_true rfl) fun p e s m below meth c ls hc hr hnx hM hS hl => ?_
  have hc : Cx g p l s m [.ref q, .int v, .int w].toArray meth c cX6_postOf 3 RX6 := hc
  have hx := hc.1
  have hb := hc.2.1
  have hl : lv_has ls 3 [(0, .ref q), (1, .int v), (2, .int w)] := hl
  refine lv_aload_n hx hb dX6_postOf_0 rfl (lv_at hl 0 rfl) ?_
  refine lv_iconst (v := 0) hx hb dX6_postOf_1 (by decide) ?_
  refine pt_X6_36 hc dX6_postOf_2 hM hS hW.o rfl rfl (Nat.le_of_ble_eq_true rfl) (fun H locs hM hS => ?_)
  have hM := hR.eq hM (putD_sc hW 19 (v := 0) md_s19)
  have hW := MdAt.put (g := g) (M := M) (m := q) (md := (up2 md 7 19 0))
  refine lv_aload_n hx hb dX6_postOf_5 rfl (lv_at hl 0 rfl) ?_
  refine lv_iload_n hx hb dX6_postOf_6 rfl (lv_at hl 1 rfl) ?_
  refine k_V1 (v := .int (bI (inB v 0 ((md 0) 3 - 1)))) hc [.int v] cw_X6_107 rfl dX6_postOf_7 (c_X6_isPost l hlf g _ q (up2 md 7 19 0) v hW) hW.o hM hS hl.1 rfl rfl ⟨Nat.le_of_ble_eq_true rfl, Nat.le_of_ble_eq_true rfl⟩ ⟨Nat.le_of_ble_eq_true rfl, Nat.le_of_ble_eq_true rfl⟩ (Nat.le_of_ble_eq_true rfl) (fun H locs hM hS => ?_)
  refine lv_if_eq (tgt := 30) hx hb dX6_postOf_10 (by decide) (fun c_10 => ?_) (fun c_10 => ?_)
  · skip
    have c_10 := bI_eq.mp c_10
    refine lv_aload_n hx hb dX6_postOf_30 rfl (lv_at hl 0 rfl) ?_
    refine lv_iconst (v := 1) hx hb dX6_postOf_31 (by decide) ?_
    refine k_V1 (v := .int 0) hc [.int 1] cw_X6_61 rfl dX6_postOf_32 (c_X6_raises l hlf g _ q (up2 md 7 19 0) 1 hW) hW.o hM hS hl.1 rfl rfl ⟨Nat.le_of_ble_eq_true rfl, Nat.le_of_ble_eq_true rfl⟩ ⟨Nat.le_of_ble_eq_true rfl, Nat.le_of_ble_eq_true rfl⟩ (Nat.le_of_ble_eq_true rfl) (fun H locs hM hS => ?_)
    have hM := hR.eq hM putD_putD
    have hW := MdAt.put (g := g) (M := M) (m := q) (md := (up2 (up2 md 7 19 0) 7 19 1))
    exact k_iret hc hr dX6_postOf_35 hM hS (Nat.le_of_ble_eq_true rfl) (Nat.le_of_ble_eq_true rfl) (by first | (simp only [eq_self, eq_false c_10, eq_self, bM_l, bM_r, rsM_l, rsM_r, seV_l, seV_r, snE_l, snE_r, up1_at, up1_up1, up2_up2, not_false_eq_true, not_true_eq_false, and_true, true_and, and_false, false_and, and_self, ↓reduceIte, or_true, true_or, or_self, or_false, false_or]; done) | (simp only [eq_self, eq_false c_10, eq_self, bM_l, bM_r, rsM_l, rsM_r, seV_l, seV_r, snE_l, snE_r, up1_at, up1_up1, up2_up2, not_false_eq_true, not_true_eq_false, and_true, true_and, and_false, false_and, and_self, ↓reduceIte, or_true, true_or, or_self, or_false, false_or]; rfl))
  · skip
    have c_10 := bI_ne.mp c_10
    have ok_10 := isP_ok (f := md 0) hI c_10
    refine lv_aload_n hx hb dX6_postOf_13 rfl (lv_at hl 0 rfl) ?_
    refine lv_iload_n hx hb dX6_postOf_14 rfl (lv_at hl 1 rfl) ?_
    refine lv_iload_n hx hb dX6_postOf_15 rfl (lv_at hl 2 rfl) ?_
    refine lv_if_eq (tgt := 23) hx hb dX6_postOf_16 (by decide) (fun c_16 => ?_) (fun c_16 => ?_)
    · skip
      refine lv_iconst (v := 0) hx hb dX6_postOf_23 (by decide) ?_
      refine k_V1 (v := .int (mP (md 0) v 0)) hc [.int v, .int 0] cw_X6_91 rfl dX6_postOf_24 (c_X6_ofPost l hlf g _ q (up2 md 7 19 0) v 0 hW (by first | assumption | decide) (by first | assumption | decide)) hW.o hM hS hl.1 rfl rfl ⟨Nat.le_of_ble_eq_true rfl, Nat.le_of_ble_eq_true rfl⟩ ⟨Nat.le_of_ble_eq_true rfl, Nat.le_of_ble_eq_true rfl⟩ (Nat.le_of_ble_eq_true rfl) (fun H locs hM hS => ?_)
      refine lv_goto (tgt := 35) hx hb dX6_postOf_27 (by decide) ?_
      exact k_iret hc hr dX6_postOf_35 hM hS (Nat.le_of_ble_eq_true rfl) (Nat.le_of_ble_eq_true rfl) (by first | (simp only [eq_self, eq_true c_10, eq_true c_16, eq_self, bM_l, bM_r, rsM_l, rsM_r, seV_l, seV_r, snE_l, snE_r, up1_at, up1_up1, up2_up2, not_false_eq_true, not_true_eq_false, and_true, true_and, and_false, false_and, and_self, ↓reduceIte, or_true, true_or, or_self, or_false, false_or]; done) | (simp only [eq_self, eq_true c_10, eq_true c_16, eq_self, bM_l, bM_r, rsM_l, rsM_r, seV_l, seV_r, snE_l, snE_r, up1_at, up1_up1, up2_up2, not_false_eq_true, not_true_eq_false, and_true, true_and, and_false, false_and, and_self, ↓reduceIte, or_true, true_or, or_self, or_false, false_or]; rfl))
    · skip
      refine lv_iconst (v := 1) hx hb dX6_postOf_19 (by decide) ?_
      refine lv_goto (tgt := 24) hx hb dX6_postOf_20 (by decide) ?_
      refine k_V1 (v := .int (mP (md 0) v 1)) hc [.int v, .int 1] cw_X6_91 rfl dX6_postOf_24 (c_X6_ofPost l hlf g _ q (up2 md 7 19 0) v 1 hW (by first | assumption | decide) (by first | assumption | decide)) hW.o hM hS hl.1 rfl rfl ⟨Nat.le_of_ble_eq_true rfl, Nat.le_of_ble_eq_true rfl⟩ ⟨Nat.le_of_ble_eq_true rfl, Nat.le_of_ble_eq_true rfl⟩ (Nat.le_of_ble_eq_true rfl) (fun H locs hM hS => ?_)
      refine lv_goto (tgt := 35) hx hb dX6_postOf_27 (by decide) ?_
      exact k_iret hc hr dX6_postOf_35 hM hS (Nat.le_of_ble_eq_true rfl) (Nat.le_of_ble_eq_true rfl) (by first | (simp only [eq_self, eq_true c_10, eq_false c_16, eq_self, bM_l, bM_r, rsM_l, rsM_r, seV_l, seV_r, snE_l, snE_r, up1_at, up1_up1, up2_up2, not_false_eq_true, not_true_eq_false, and_true, true_and, and_false, false_and, and_self, ↓reduceIte, or_true, true_or, or_self, or_false, false_or]; done) | (simp only [eq_self, eq_true c_10, eq_false c_16, eq_self, bM_l, bM_r, rsM_l, rsM_r, seV_l, seV_r, snE_l, snE_r, up1_at, up1_up1, up2_up2, not_false_eq_true, not_true_eq_false, and_true, true_and, and_false, false_and, and_self, ↓reduceIte, or_true, true_or, or_self, or_false, false_or]; rfl))
set_option maxHeartbeats 4000000 in
set_option maxRecDepth 100000 in
theorem c_X6_camelOf (l : Launch) (hlf : l.stackTraces = false) (g : GC) (M : HM) (q : Nat) (md : FL) (v : Int32) (w : Int32) (hW : MdAt g M q md) (hI : mOk (md 0)) : KM g l yX6_camelOf cX6_camelOf 3 (some .int) 3 0 0 [.ref q, .int v, .int w] M (.inl (some (.int (if inB v 0 (md 0 5 - 1) then (if w = 0 ∨ w = 1 ∨ w = 2 then mC (md 0) v w else if w = 3 then (if lostM (md 0) v then 1 else 0) else if w = 4 then mC (md 0) v 3 else 0) else 0)), (putD g M q (up2 md 7 19 (if inB v 0 (md 0 5 - 1) then (if w = 0 ∨ w = 1 ∨ w = 2 ∨ w = 3 ∨ w = 4 then 0 else 2) else 1))))) := by
  refine k_meth hlf (by decide) (Nat.le_of_ble_eq_true rfl) fun p e s m below meth c ls hc hr hnx hM hS hl => ?_
  have hc : Cx g p l s m [.ref q, .int v, .int w].toArray meth c cX6_camelOf 3 RX6 := hc
  have hx := hc.1
  have hb := hc.2.1
  have hl : lv_has ls 3 [(0, .ref q), (1, .int v), (2, .int w)] := hl
  refine lv_aload_n hx hb dX6_camelOf_0 rfl (lv_at hl 0 rfl) ?_
  refine lv_iconst (v := 0) hx hb dX6_camelOf_1 (by decide) ?_
  refine pt_X6_36 hc dX6_camelOf_2 hM hS hW.o rfl rfl (Nat.le_of_ble_eq_true rfl) (fun H locs hM hS => ?_)
  have hM := hR.eq hM (putD_sc hW 19 (v := 0) md_s19)
  have hW := MdAt.put (g := g) (M := M) (m := q) (md := (up2 md 7 19 0))
  refine lv_aload_n hx hb dX6_camelOf_5 rfl (lv_at hl 0 rfl) ?_
  refine lv_iload_n hx hb dX6_camelOf_6 rfl (lv_at hl 1 rfl) ?_
  refine k_V1 (v := .int (bI (inB v 0 ((md 0) 5 - 1)))) hc [.int v] cw_X6_141 rfl dX6_camelOf_7 (c_X6_isCamel l hlf g _ q (up2 md 7 19 0) v hW) hW.o hM hS hl.1 rfl rfl ⟨Nat.le_of_ble_eq_true rfl, Nat.le_of_ble_eq_true rfl⟩ ⟨Nat.le_of_ble_eq_true rfl, Nat.le_of_ble_eq_true rfl⟩ (Nat.le_of_ble_eq_true rfl) (fun H locs hM hS => ?_)
  refine lv_if_ne (tgt := 19) hx hb dX6_camelOf_10 (by decide) (fun c_10 => ?_) (fun c_10 => ?_)
  · skip
    have c_10 := bI_ne.mp c_10
    have ok_10 := isC_ok (f := md 0) hI c_10
    refine lv_iload_n hx hb dX6_camelOf_19 rfl (lv_at hl 2 rfl) ?_
    by_cases c_20_0 : w = 0
    · skip
      have e_20 : w.toInt = 0 := by rw [c_20_0]; rfl
      refine lv_tableIn (tgt := 56) hx hb dX6_camelOf_20 (by rw [e_20]; decide) (by rw [e_20]; decide) (by rw [e_20]; rfl) (by decide) ?_
      have okw : okW w := by rw [c_20_0]; decide
      refine lv_aload_n hx hb dX6_camelOf_56 rfl (lv_at hl 0 rfl) ?_
      refine lv_iload_n hx hb dX6_camelOf_57 rfl (lv_at hl 1 rfl) ?_
      refine lv_iload_n hx hb dX6_camelOf_58 rfl (lv_at hl 2 rfl) ?_
      refine k_V1 (v := .int (mC (md 0) v w)) hc [.int v, .int w] cw_X6_68 rfl dX6_camelOf_59 (c_X6_ofCamel l hlf g _ q (up2 md 7 19 0) v w hW (by first | assumption | decide) (by first | assumption | decide)) hW.o hM hS hl.1 rfl rfl ⟨Nat.le_of_ble_eq_true rfl, Nat.le_of_ble_eq_true rfl⟩ ⟨Nat.le_of_ble_eq_true rfl, Nat.le_of_ble_eq_true rfl⟩ (Nat.le_of_ble_eq_true rfl) (fun H locs hM hS => ?_)
      exact k_iret hc hr dX6_camelOf_62 hM hS (Nat.le_of_ble_eq_true rfl) (Nat.le_of_ble_eq_true rfl) (by first | (simp only [eq_self, eq_true c_10, eq_true c_20_0, eq_self, bM_l, bM_r, rsM_l, rsM_r, seV_l, seV_r, snE_l, snE_r, up1_at, up1_up1, up2_up2, not_false_eq_true, not_true_eq_false, and_true, true_and, and_false, false_and, and_self, ↓reduceIte, or_true, true_or, or_self, or_false, false_or]; done) | (simp only [eq_self, eq_true c_10, eq_true c_20_0, eq_self, bM_l, bM_r, rsM_l, rsM_r, seV_l, seV_r, snE_l, snE_r, up1_at, up1_up1, up2_up2, not_false_eq_true, not_true_eq_false, and_true, true_and, and_false, false_and, and_self, ↓reduceIte, or_true, true_or, or_self, or_false, false_or]; rfl))
    by_cases c_20_1 : w = 1
    · skip
      have e_20 : w.toInt = 1 := by rw [c_20_1]; rfl
      refine lv_tableIn (tgt := 56) hx hb dX6_camelOf_20 (by rw [e_20]; decide) (by rw [e_20]; decide) (by rw [e_20]; rfl) (by decide) ?_
      have okw : okW w := by rw [c_20_1]; decide
      refine lv_aload_n hx hb dX6_camelOf_56 rfl (lv_at hl 0 rfl) ?_
      refine lv_iload_n hx hb dX6_camelOf_57 rfl (lv_at hl 1 rfl) ?_
      refine lv_iload_n hx hb dX6_camelOf_58 rfl (lv_at hl 2 rfl) ?_
      refine k_V1 (v := .int (mC (md 0) v w)) hc [.int v, .int w] cw_X6_68 rfl dX6_camelOf_59 (c_X6_ofCamel l hlf g _ q (up2 md 7 19 0) v w hW (by first | assumption | decide) (by first | assumption | decide)) hW.o hM hS hl.1 rfl rfl ⟨Nat.le_of_ble_eq_true rfl, Nat.le_of_ble_eq_true rfl⟩ ⟨Nat.le_of_ble_eq_true rfl, Nat.le_of_ble_eq_true rfl⟩ (Nat.le_of_ble_eq_true rfl) (fun H locs hM hS => ?_)
      exact k_iret hc hr dX6_camelOf_62 hM hS (Nat.le_of_ble_eq_true rfl) (Nat.le_of_ble_eq_true rfl) (by first | (simp only [eq_self, eq_true c_10, eq_false c_20_0, eq_true c_20_1, eq_self, bM_l, bM_r, rsM_l, rsM_r, seV_l, seV_r, snE_l, snE_r, up1_at, up1_up1, up2_up2, not_false_eq_true, not_true_eq_false, and_true, true_and, and_false, false_and, and_self, ↓reduceIte, or_true, true_or, or_self, or_false, false_or]; done) | (simp only [eq_self, eq_true c_10, eq_false c_20_0, eq_true c_20_1, eq_self, bM_l, bM_r, rsM_l, rsM_r, seV_l, seV_r, snE_l, snE_r, up1_at, up1_up1, up2_up2, not_false_eq_true, not_true_eq_false, and_true, true_and, and_false, false_and, and_self, ↓reduceIte, or_true, true_or, or_self, or_false, false_or]; rfl))
    by_cases c_20_2 : w = 2
    · skip
      have e_20 : w.toInt = 2 := by rw [c_20_2]; rfl
      refine lv_tableIn (tgt := 56) hx hb dX6_camelOf_20 (by rw [e_20]; decide) (by rw [e_20]; decide) (by rw [e_20]; rfl) (by decide) ?_
      have okw : okW w := by rw [c_20_2]; decide
      refine lv_aload_n hx hb dX6_camelOf_56 rfl (lv_at hl 0 rfl) ?_
      refine lv_iload_n hx hb dX6_camelOf_57 rfl (lv_at hl 1 rfl) ?_
      refine lv_iload_n hx hb dX6_camelOf_58 rfl (lv_at hl 2 rfl) ?_
      refine k_V1 (v := .int (mC (md 0) v w)) hc [.int v, .int w] cw_X6_68 rfl dX6_camelOf_59 (c_X6_ofCamel l hlf g _ q (up2 md 7 19 0) v w hW (by first | assumption | decide) (by first | assumption | decide)) hW.o hM hS hl.1 rfl rfl ⟨Nat.le_of_ble_eq_true rfl, Nat.le_of_ble_eq_true rfl⟩ ⟨Nat.le_of_ble_eq_true rfl, Nat.le_of_ble_eq_true rfl⟩ (Nat.le_of_ble_eq_true rfl) (fun H locs hM hS => ?_)
      exact k_iret hc hr dX6_camelOf_62 hM hS (Nat.le_of_ble_eq_true rfl) (Nat.le_of_ble_eq_true rfl) (by first | (simp only [eq_self, eq_true c_10, eq_false c_20_0, eq_false c_20_1, eq_true c_20_2, eq_self, bM_l, bM_r, rsM_l, rsM_r, seV_l, seV_r, snE_l, snE_r, up1_at, up1_up1, up2_up2, not_false_eq_true, not_true_eq_false, and_true, true_and, and_false, false_and, and_self, ↓reduceIte, or_true, true_or, or_self, or_false, false_or]; done) | (simp only [eq_self, eq_true c_10, eq_false c_20_0, eq_false c_20_1, eq_true c_20_2, eq_self, bM_l, bM_r, rsM_l, rsM_r, seV_l, seV_r, snE_l, snE_r, up1_at, up1_up1, up2_up2, not_false_eq_true, not_true_eq_false, and_true, true_and, and_false, false_and, and_self, ↓reduceIte, or_true, true_or, or_self, or_false, false_or]; rfl))
    by_cases c_20_3 : w = 3
    · skip
      have e_20 : w.toInt = 3 := by rw [c_20_3]; rfl
      refine lv_tableIn (tgt := 63) hx hb dX6_camelOf_20 (by rw [e_20]; decide) (by rw [e_20]; decide) (by rw [e_20]; rfl) (by decide) ?_
      refine lv_aload_n hx hb dX6_camelOf_63 rfl (lv_at hl 0 rfl) ?_
      refine lv_iload_n hx hb dX6_camelOf_64 rfl (lv_at hl 1 rfl) ?_
      refine k_V1 (v := .int (bI (lostM (md 0) v))) hc [.int v] cw_X6_135 rfl dX6_camelOf_65 (c_X6_isLost l hlf g _ q (up2 md 7 19 0) v hW (by first | assumption | decide)) hW.o hM hS hl.1 rfl rfl ⟨Nat.le_of_ble_eq_true rfl, Nat.le_of_ble_eq_true rfl⟩ ⟨Nat.le_of_ble_eq_true rfl, Nat.le_of_ble_eq_true rfl⟩ (Nat.le_of_ble_eq_true rfl) (fun H locs hM hS => ?_)
      refine lv_if_eq (tgt := 75) hx hb dX6_camelOf_68 (by decide) (fun c_68 => ?_) (fun c_68 => ?_)
      · skip
        have c_68 := bI_eq.mp c_68
        refine lv_iconst (v := 0) hx hb dX6_camelOf_75 (by decide) ?_
        exact k_iret hc hr dX6_camelOf_76 hM hS (Nat.le_of_ble_eq_true rfl) (Nat.le_of_ble_eq_true rfl) (by first | (simp only [eq_self, eq_true c_10, eq_false c_20_0, eq_false c_20_1, eq_false c_20_2, eq_true c_20_3, eq_false c_68, eq_self, bM_l, bM_r, rsM_l, rsM_r, seV_l, seV_r, snE_l, snE_r, up1_at, up1_up1, up2_up2, not_false_eq_true, not_true_eq_false, and_true, true_and, and_false, false_and, and_self, ↓reduceIte, or_true, true_or, or_self, or_false, false_or]; done) | (simp only [eq_self, eq_true c_10, eq_false c_20_0, eq_false c_20_1, eq_false c_20_2, eq_true c_20_3, eq_false c_68, eq_self, bM_l, bM_r, rsM_l, rsM_r, seV_l, seV_r, snE_l, snE_r, up1_at, up1_up1, up2_up2, not_false_eq_true, not_true_eq_false, and_true, true_and, and_false, false_and, and_self, ↓reduceIte, or_true, true_or, or_self, or_false, false_or]; rfl))
      · skip
        have c_68 := bI_ne.mp c_68
        refine lv_iconst (v := 1) hx hb dX6_camelOf_71 (by decide) ?_
        refine lv_goto (tgt := 76) hx hb dX6_camelOf_72 (by decide) ?_
        exact k_iret hc hr dX6_camelOf_76 hM hS (Nat.le_of_ble_eq_true rfl) (Nat.le_of_ble_eq_true rfl) (by first | (simp only [eq_self, eq_true c_10, eq_false c_20_0, eq_false c_20_1, eq_false c_20_2, eq_true c_20_3, eq_true c_68, eq_self, bM_l, bM_r, rsM_l, rsM_r, seV_l, seV_r, snE_l, snE_r, up1_at, up1_up1, up2_up2, not_false_eq_true, not_true_eq_false, and_true, true_and, and_false, false_and, and_self, ↓reduceIte, or_true, true_or, or_self, or_false, false_or]; done) | (simp only [eq_self, eq_true c_10, eq_false c_20_0, eq_false c_20_1, eq_false c_20_2, eq_true c_20_3, eq_true c_68, eq_self, bM_l, bM_r, rsM_l, rsM_r, seV_l, seV_r, snE_l, snE_r, up1_at, up1_up1, up2_up2, not_false_eq_true, not_true_eq_false, and_true, true_and, and_false, false_and, and_self, ↓reduceIte, or_true, true_or, or_self, or_false, false_or]; rfl))
    by_cases c_20_4 : w = 4
    · skip
      have e_20 : w.toInt = 4 := by rw [c_20_4]; rfl
      refine lv_tableIn (tgt := 77) hx hb dX6_camelOf_20 (by rw [e_20]; decide) (by rw [e_20]; decide) (by rw [e_20]; rfl) (by decide) ?_
      refine lv_aload_n hx hb dX6_camelOf_77 rfl (lv_at hl 0 rfl) ?_
      refine lv_iload_n hx hb dX6_camelOf_78 rfl (lv_at hl 1 rfl) ?_
      refine lv_iconst (v := 3) hx hb dX6_camelOf_79 (by decide) ?_
      refine k_V1 (v := .int (mC (md 0) v 3)) hc [.int v, .int 3] cw_X6_68 rfl dX6_camelOf_80 (c_X6_ofCamel l hlf g _ q (up2 md 7 19 0) v 3 hW (by first | assumption | decide) (by first | assumption | decide)) hW.o hM hS hl.1 rfl rfl ⟨Nat.le_of_ble_eq_true rfl, Nat.le_of_ble_eq_true rfl⟩ ⟨Nat.le_of_ble_eq_true rfl, Nat.le_of_ble_eq_true rfl⟩ (Nat.le_of_ble_eq_true rfl) (fun H locs hM hS => ?_)
      exact k_iret hc hr dX6_camelOf_83 hM hS (Nat.le_of_ble_eq_true rfl) (Nat.le_of_ble_eq_true rfl) (by first | (simp only [eq_self, eq_true c_10, eq_false c_20_0, eq_false c_20_1, eq_false c_20_2, eq_false c_20_3, eq_true c_20_4, eq_self, bM_l, bM_r, rsM_l, rsM_r, seV_l, seV_r, snE_l, snE_r, up1_at, up1_up1, up2_up2, not_false_eq_true, not_true_eq_false, and_true, true_and, and_false, false_and, and_self, ↓reduceIte, or_true, true_or, or_self, or_false, false_or]; done) | (simp only [eq_self, eq_true c_10, eq_false c_20_0, eq_false c_20_1, eq_false c_20_2, eq_false c_20_3, eq_true c_20_4, eq_self, bM_l, bM_r, rsM_l, rsM_r, seV_l, seV_r, snE_l, snE_r, up1_at, up1_up1, up2_up2, not_false_eq_true, not_true_eq_false, and_true, true_and, and_false, false_and, and_self, ↓reduceIte, or_true, true_or, or_self, or_false, false_or]; rfl))
    have t_20 : (w.toInt < 0 ∨ 4 < w.toInt) ∨ (¬ w.toInt < 0 ∧ ¬ 4 < w.toInt ∧ (#[(36 : Int), (36 : Int), (36 : Int), (43 : Int), (57 : Int)] : Array Int)[(w.toInt - 0).toNat]? = some 64) := by
      by_cases h1 : w.toInt < 0
      · exact Or.inl (Or.inl h1)
      by_cases h2 : 4 < w.toInt
      · exact Or.inl (Or.inr h2)
      exact Or.inr ⟨h1, h2, tab_df (n := 5) (exc := [0, 1, 2, 3, 4]) (by decide) h1 h2 (by decide) (exc_c (tab_ne c_20_0 (by decide) h1) (exc_c (tab_ne c_20_1 (by decide) h1) (exc_c (tab_ne c_20_2 (by decide) h1) (exc_c (tab_ne c_20_3 (by decide) h1) (exc_c (tab_ne c_20_4 (by decide) h1) exc_n)))))⟩
    refine k_tabDf (tgt := 84) hx hb dX6_camelOf_20 t_20 (by decide) ?_
    refine lv_aload_n hx hb dX6_camelOf_84 rfl (lv_at hl 0 rfl) ?_
    refine lv_iconst (v := 2) hx hb dX6_camelOf_85 (by decide) ?_
    refine k_V1 (v := .int 0) hc [.int 2] cw_X6_61 rfl dX6_camelOf_86 (c_X6_raises l hlf g _ q (up2 md 7 19 0) 2 hW) hW.o hM hS hl.1 rfl rfl ⟨Nat.le_of_ble_eq_true rfl, Nat.le_of_ble_eq_true rfl⟩ ⟨Nat.le_of_ble_eq_true rfl, Nat.le_of_ble_eq_true rfl⟩ (Nat.le_of_ble_eq_true rfl) (fun H locs hM hS => ?_)
    have hM := hR.eq hM putD_putD
    have hW := MdAt.put (g := g) (M := M) (m := q) (md := (up2 (up2 md 7 19 0) 7 19 2))
    exact k_iret hc hr dX6_camelOf_89 hM hS (Nat.le_of_ble_eq_true rfl) (Nat.le_of_ble_eq_true rfl) (by first | (simp only [eq_self, eq_true c_10, eq_false c_20_0, eq_false c_20_1, eq_false c_20_2, eq_false c_20_3, eq_false c_20_4, eq_self, bM_l, bM_r, rsM_l, rsM_r, seV_l, seV_r, snE_l, snE_r, up1_at, up1_up1, up2_up2, not_false_eq_true, not_true_eq_false, and_true, true_and, and_false, false_and, and_self, ↓reduceIte, or_true, true_or, or_self, or_false, false_or]; done) | (simp only [eq_self, eq_true c_10, eq_false c_20_0, eq_false c_20_1, eq_false c_20_2, eq_false c_20_3, eq_false c_20_4, eq_self, bM_l, bM_r, rsM_l, rsM_r, seV_l, seV_r, snE_l, snE_r, up1_at, up1_up1, up2_up2, not_false_eq_true, not_true_eq_false, and_true, true_and, and_false, false_and, and_self, ↓reduceIte, or_true, true_or, or_self, or_false, false_or]; rfl))
  · skip
    have c_10 := bI_eq.mp c_10
    refine lv_aload_n hx hb dX6_camelOf_13 rfl (lv_at hl 0 rfl) ?_
    refine lv_iconst (v := 1) hx hb dX6_camelOf_14 (by decide) ?_
    refine k_V1 (v := .int 0) hc [.int 1] cw_X6_61 rfl dX6_camelOf_15 (c_X6_raises l hlf g _ q (up2 md 7 19 0) 1 hW) hW.o hM hS hl.1 rfl rfl ⟨Nat.le_of_ble_eq_true rfl, Nat.le_of_ble_eq_true rfl⟩ ⟨Nat.le_of_ble_eq_true rfl, Nat.le_of_ble_eq_true rfl⟩ (Nat.le_of_ble_eq_true rfl) (fun H locs hM hS => ?_)
    have hM := hR.eq hM putD_putD
    have hW := MdAt.put (g := g) (M := M) (m := q) (md := (up2 (up2 md 7 19 0) 7 19 1))
    exact k_iret hc hr dX6_camelOf_18 hM hS (Nat.le_of_ble_eq_true rfl) (Nat.le_of_ble_eq_true rfl) (by first | (simp only [eq_self, eq_false c_10, eq_self, bM_l, bM_r, rsM_l, rsM_r, seV_l, seV_r, snE_l, snE_r, up1_at, up1_up1, up2_up2, not_false_eq_true, not_true_eq_false, and_true, true_and, and_false, false_and, and_self, ↓reduceIte, or_true, true_or, or_self, or_false, false_or]; done) | (simp only [eq_self, eq_false c_10, eq_self, bM_l, bM_r, rsM_l, rsM_r, seV_l, seV_r, snE_l, snE_r, up1_at, up1_up1, up2_up2, not_false_eq_true, not_true_eq_false, and_true, true_and, and_false, false_and, and_self, ↓reduceIte, or_true, true_or, or_self, or_false, false_or]; rfl))
set_option maxHeartbeats 4000000 in
set_option maxRecDepth 100000 in
theorem c_X6_drawnAt (l : Launch) (hlf : l.stackTraces = false) (g : GC) (M : HM) (q : Nat) (md : FL) (v : Int32) (w : Int32) (hW : MdAt g M q md) (hI : mOk (md 0)) : KM g l yX6_drawnAt cX6_drawnAt 3 (some .int) 3 0 0 [.ref q, .int v, .int w] M (.inl (some (.int (if inB v 0 (md 0 2 - 1) ∧ inB w 0 (md 0 4 - 1) then (if 0 ≤ mD (md 0) v w then mD (md 0) v w else 0) else 0)), (putD g M q (up2 md 7 19 (if inB v 0 (md 0 2 - 1) ∧ inB w 0 (md 0 4 - 1) then (if 0 ≤ mD (md 0) v w then 0 else 2) else 1))))) := by
  refine k_meth hlf (by decide) (Nat.le_of_ble_eq_true rfl) fun p e s m below meth c ls hc hr hnx hM hS hl => ?_
  have hc : Cx g p l s m [.ref q, .int v, .int w].toArray meth c cX6_drawnAt 3 RX6 := hc
  have hx := hc.1
  have hb := hc.2.1
  have hl : lv_has ls 3 [(0, .ref q), (1, .int v), (2, .int w)] := hl
  refine lv_aload_n hx hb dX6_drawnAt_0 rfl (lv_at hl 0 rfl) ?_
  refine lv_iconst (v := 0) hx hb dX6_drawnAt_1 (by decide) ?_
  refine pt_X6_36 hc dX6_drawnAt_2 hM hS hW.o rfl rfl (Nat.le_of_ble_eq_true rfl) (fun H locs hM hS => ?_)
  have hM := hR.eq hM (putD_sc hW 19 (v := 0) md_s19)
  have hW := MdAt.put (g := g) (M := M) (m := q) (md := (up2 md 7 19 0))
  refine lv_aload_n hx hb dX6_drawnAt_5 rfl (lv_at hl 0 rfl) ?_
  refine lv_iload_n hx hb dX6_drawnAt_6 rfl (lv_at hl 1 rfl) ?_
  refine k_V1 (v := .int (bI (inB v 0 ((md 0) 2 - 1)))) hc [.int v] cw_X6_103 rfl dX6_drawnAt_7 (c_X6_isStake l hlf g _ q (up2 md 7 19 0) v hW) hW.o hM hS hl.1 rfl rfl ⟨Nat.le_of_ble_eq_true rfl, Nat.le_of_ble_eq_true rfl⟩ ⟨Nat.le_of_ble_eq_true rfl, Nat.le_of_ble_eq_true rfl⟩ (Nat.le_of_ble_eq_true rfl) (fun H locs hM hS => ?_)
  refine lv_if_eq (tgt := 21) hx hb dX6_drawnAt_10 (by decide) (fun c_10 => ?_) (fun c_10 => ?_)
  · skip
    have c_10 := bI_eq.mp c_10
    refine lv_aload_n hx hb dX6_drawnAt_21 rfl (lv_at hl 0 rfl) ?_
    refine lv_iconst (v := 1) hx hb dX6_drawnAt_22 (by decide) ?_
    refine k_V1 (v := .int 0) hc [.int 1] cw_X6_61 rfl dX6_drawnAt_23 (c_X6_raises l hlf g _ q (up2 md 7 19 0) 1 hW) hW.o hM hS hl.1 rfl rfl ⟨Nat.le_of_ble_eq_true rfl, Nat.le_of_ble_eq_true rfl⟩ ⟨Nat.le_of_ble_eq_true rfl, Nat.le_of_ble_eq_true rfl⟩ (Nat.le_of_ble_eq_true rfl) (fun H locs hM hS => ?_)
    have hM := hR.eq hM putD_putD
    have hW := MdAt.put (g := g) (M := M) (m := q) (md := (up2 (up2 md 7 19 0) 7 19 1))
    exact k_iret hc hr dX6_drawnAt_26 hM hS (Nat.le_of_ble_eq_true rfl) (Nat.le_of_ble_eq_true rfl) (by first | (simp only [eq_self, eq_false c_10, eq_self, bM_l, bM_r, rsM_l, rsM_r, seV_l, seV_r, snE_l, snE_r, up1_at, up1_up1, up2_up2, not_false_eq_true, not_true_eq_false, and_true, true_and, and_false, false_and, and_self, ↓reduceIte, or_true, true_or, or_self, or_false, false_or]; done) | (simp only [eq_self, eq_false c_10, eq_self, bM_l, bM_r, rsM_l, rsM_r, seV_l, seV_r, snE_l, snE_r, up1_at, up1_up1, up2_up2, not_false_eq_true, not_true_eq_false, and_true, true_and, and_false, false_and, and_self, ↓reduceIte, or_true, true_or, or_self, or_false, false_or]; rfl))
  · skip
    have c_10 := bI_ne.mp c_10
    have ok_10 := isS_ok (f := md 0) hI c_10
    refine lv_aload_n hx hb dX6_drawnAt_13 rfl (lv_at hl 0 rfl) ?_
    refine lv_iload_n hx hb dX6_drawnAt_14 rfl (lv_at hl 2 rfl) ?_
    refine k_V1 (v := .int (bI (inB w 0 ((md 0) 4 - 1)))) hc [.int w] cw_X6_110 rfl dX6_drawnAt_15 (c_X6_isSheet l hlf g _ q (up2 md 7 19 0) w hW) hW.o hM hS hl.1 rfl rfl ⟨Nat.le_of_ble_eq_true rfl, Nat.le_of_ble_eq_true rfl⟩ ⟨Nat.le_of_ble_eq_true rfl, Nat.le_of_ble_eq_true rfl⟩ (Nat.le_of_ble_eq_true rfl) (fun H locs hM hS => ?_)
    refine lv_if_ne (tgt := 27) hx hb dX6_drawnAt_18 (by decide) (fun c_18 => ?_) (fun c_18 => ?_)
    · skip
      have c_18 := bI_ne.mp c_18
      have ok_18 := isH_ok (f := md 0) hI c_18
      refine lv_aload_n hx hb dX6_drawnAt_27 rfl (lv_at hl 0 rfl) ?_
      refine lv_iload_n hx hb dX6_drawnAt_28 rfl (lv_at hl 1 rfl) ?_
      refine lv_iload_n hx hb dX6_drawnAt_29 rfl (lv_at hl 2 rfl) ?_
      refine k_V1 (v := .int (mD (md 0) v w)) hc [.int v, .int w] cw_X6_125 rfl dX6_drawnAt_30 (c_X6_drawn l hlf g _ q (up2 md 7 19 0) v w hW (by first | assumption | decide) (by first | assumption | decide)) hW.o hM hS hl.1 rfl rfl ⟨Nat.le_of_ble_eq_true rfl, Nat.le_of_ble_eq_true rfl⟩ ⟨Nat.le_of_ble_eq_true rfl, Nat.le_of_ble_eq_true rfl⟩ (Nat.le_of_ble_eq_true rfl) (fun H locs hM hS => ?_)
      refine lv_if_ge (tgt := 44) hx hb dX6_drawnAt_33 (by decide) (fun c_33 => ?_) (fun c_33 => ?_)
      · skip
        refine lv_aload_n hx hb dX6_drawnAt_44 rfl (lv_at hl 0 rfl) ?_
        refine lv_iload_n hx hb dX6_drawnAt_45 rfl (lv_at hl 1 rfl) ?_
        refine lv_iload_n hx hb dX6_drawnAt_46 rfl (lv_at hl 2 rfl) ?_
        refine k_V1 (v := .int (mD (md 0) v w)) hc [.int v, .int w] cw_X6_125 rfl dX6_drawnAt_47 (c_X6_drawn l hlf g _ q (up2 md 7 19 0) v w hW (by first | assumption | decide) (by first | assumption | decide)) hW.o hM hS hl.1 rfl rfl ⟨Nat.le_of_ble_eq_true rfl, Nat.le_of_ble_eq_true rfl⟩ ⟨Nat.le_of_ble_eq_true rfl, Nat.le_of_ble_eq_true rfl⟩ (Nat.le_of_ble_eq_true rfl) (fun H locs hM hS => ?_)
        exact k_iret hc hr dX6_drawnAt_50 hM hS (Nat.le_of_ble_eq_true rfl) (Nat.le_of_ble_eq_true rfl) (by first | (simp only [eq_self, eq_true c_10, eq_true c_18, eq_true c_33, eq_self, bM_l, bM_r, rsM_l, rsM_r, seV_l, seV_r, snE_l, snE_r, up1_at, up1_up1, up2_up2, not_false_eq_true, not_true_eq_false, and_true, true_and, and_false, false_and, and_self, ↓reduceIte, or_true, true_or, or_self, or_false, false_or]; done) | (simp only [eq_self, eq_true c_10, eq_true c_18, eq_true c_33, eq_self, bM_l, bM_r, rsM_l, rsM_r, seV_l, seV_r, snE_l, snE_r, up1_at, up1_up1, up2_up2, not_false_eq_true, not_true_eq_false, and_true, true_and, and_false, false_and, and_self, ↓reduceIte, or_true, true_or, or_self, or_false, false_or]; rfl))
      · skip
        refine lv_aload_n hx hb dX6_drawnAt_36 rfl (lv_at hl 0 rfl) ?_
        refine lv_iconst (v := 2) hx hb dX6_drawnAt_37 (by decide) ?_
        refine k_V1 (v := .int 0) hc [.int 2] cw_X6_61 rfl dX6_drawnAt_38 (c_X6_raises l hlf g _ q (up2 md 7 19 0) 2 hW) hW.o hM hS hl.1 rfl rfl ⟨Nat.le_of_ble_eq_true rfl, Nat.le_of_ble_eq_true rfl⟩ ⟨Nat.le_of_ble_eq_true rfl, Nat.le_of_ble_eq_true rfl⟩ (Nat.le_of_ble_eq_true rfl) (fun H locs hM hS => ?_)
        have hM := hR.eq hM putD_putD
        have hW := MdAt.put (g := g) (M := M) (m := q) (md := (up2 (up2 md 7 19 0) 7 19 2))
        refine lv_goto (tgt := 50) hx hb dX6_drawnAt_41 (by decide) ?_
        exact k_iret hc hr dX6_drawnAt_50 hM hS (Nat.le_of_ble_eq_true rfl) (Nat.le_of_ble_eq_true rfl) (by first | (simp only [eq_self, eq_true c_10, eq_true c_18, eq_false c_33, eq_self, bM_l, bM_r, rsM_l, rsM_r, seV_l, seV_r, snE_l, snE_r, up1_at, up1_up1, up2_up2, not_false_eq_true, not_true_eq_false, and_true, true_and, and_false, false_and, and_self, ↓reduceIte, or_true, true_or, or_self, or_false, false_or]; done) | (simp only [eq_self, eq_true c_10, eq_true c_18, eq_false c_33, eq_self, bM_l, bM_r, rsM_l, rsM_r, seV_l, seV_r, snE_l, snE_r, up1_at, up1_up1, up2_up2, not_false_eq_true, not_true_eq_false, and_true, true_and, and_false, false_and, and_self, ↓reduceIte, or_true, true_or, or_self, or_false, false_or]; rfl))
    · skip
      have c_18 := bI_eq.mp c_18
      refine lv_aload_n hx hb dX6_drawnAt_21 rfl (lv_at hl 0 rfl) ?_
      refine lv_iconst (v := 1) hx hb dX6_drawnAt_22 (by decide) ?_
      refine k_V1 (v := .int 0) hc [.int 1] cw_X6_61 rfl dX6_drawnAt_23 (c_X6_raises l hlf g _ q (up2 md 7 19 0) 1 hW) hW.o hM hS hl.1 rfl rfl ⟨Nat.le_of_ble_eq_true rfl, Nat.le_of_ble_eq_true rfl⟩ ⟨Nat.le_of_ble_eq_true rfl, Nat.le_of_ble_eq_true rfl⟩ (Nat.le_of_ble_eq_true rfl) (fun H locs hM hS => ?_)
      have hM := hR.eq hM putD_putD
      have hW := MdAt.put (g := g) (M := M) (m := q) (md := (up2 (up2 md 7 19 0) 7 19 1))
      exact k_iret hc hr dX6_drawnAt_26 hM hS (Nat.le_of_ble_eq_true rfl) (Nat.le_of_ble_eq_true rfl) (by first | (simp only [eq_self, eq_true c_10, eq_false c_18, eq_self, bM_l, bM_r, rsM_l, rsM_r, seV_l, seV_r, snE_l, snE_r, up1_at, up1_up1, up2_up2, not_false_eq_true, not_true_eq_false, and_true, true_and, and_false, false_and, and_self, ↓reduceIte, or_true, true_or, or_self, or_false, false_or]; done) | (simp only [eq_self, eq_true c_10, eq_false c_18, eq_self, bM_l, bM_r, rsM_l, rsM_r, seV_l, seV_r, snE_l, snE_r, up1_at, up1_up1, up2_up2, not_false_eq_true, not_true_eq_false, and_true, true_and, and_false, false_and, and_self, ↓reduceIte, or_true, true_or, or_self, or_false, false_or]; rfl))
set_option maxHeartbeats 4000000 in
set_option maxRecDepth 100000 in
theorem c_X6_wrongBy (l : Launch) (hlf : l.stackTraces = false) (g : GC) (M : HM) (q : Nat) (md : FL) (v : Int32) (hW : MdAt g M q md) (hI : mOk (md 0)) : KM g l yX6_wrongBy cX6_wrongBy 4 (some .int) 5 0 0 [.ref q, .int v] M (.inl (some (.int (if inB v 0 (md 0 4 - 1) then itr (wbM (md 0) v) 0 (md 0 2).toNatClampNeg else 0)), (putD g M q (up2 md 7 19 (if inB v 0 (md 0 4 - 1) then 0 else 1))))) := by
  refine k_meth hlf (by decide) (Nat.le_of_ble_eq_true rfl) fun p e s m below meth c ls hc hr hnx hM hS hl => ?_
  have hc : Cx g p l s m [.ref q, .int v].toArray meth c cX6_wrongBy 4 RX6 := hc
  have hx := hc.1
  have hb := hc.2.1
  have hl : lv_has ls 4 [(0, .ref q), (1, .int v)] := hl
  refine lv_aload_n hx hb dX6_wrongBy_0 rfl (lv_at hl 0 rfl) ?_
  refine lv_iconst (v := 0) hx hb dX6_wrongBy_1 (by decide) ?_
  refine pt_X6_36 hc dX6_wrongBy_2 hM hS hW.o rfl rfl (Nat.le_of_ble_eq_true rfl) (fun H locs hM hS => ?_)
  have hM := hR.eq hM (putD_sc hW 19 (v := 0) md_s19)
  have hW := MdAt.put (g := g) (M := M) (m := q) (md := (up2 md 7 19 0))
  refine lv_aload_n hx hb dX6_wrongBy_5 rfl (lv_at hl 0 rfl) ?_
  refine lv_iload_n hx hb dX6_wrongBy_6 rfl (lv_at hl 1 rfl) ?_
  refine k_V1 (v := .int (bI (inB v 0 ((md 0) 4 - 1)))) hc [.int v] cw_X6_110 rfl dX6_wrongBy_7 (c_X6_isSheet l hlf g _ q (up2 md 7 19 0) v hW) hW.o hM hS hl.1 rfl rfl ⟨Nat.le_of_ble_eq_true rfl, Nat.le_of_ble_eq_true rfl⟩ ⟨Nat.le_of_ble_eq_true rfl, Nat.le_of_ble_eq_true rfl⟩ (Nat.le_of_ble_eq_true rfl) (fun H locs hM hS => ?_)
  refine lv_if_ne (tgt := 19) hx hb dX6_wrongBy_10 (by decide) (fun c_10 => ?_) (fun c_10 => ?_)
  · skip
    have c_10 := bI_ne.mp c_10
    have ok_10 := isH_ok (f := md 0) hI c_10
    refine lv_iconst (v := 0) hx hb dX6_wrongBy_19 (by decide) ?_
    refine lv_istore_n (lv' := [(2, .int 0), (0, .ref q), (1, .int v)]) hx hb dX6_wrongBy_20 rfl hl (by decide) rfl (fun ls hl => ?_)
    refine lv_iconst (v := 0) hx hb dX6_wrongBy_21 (by decide) ?_
    refine lv_istore_n (lv' := [(3, .int 0), (2, .int 0), (0, .ref q), (1, .int v)]) hx hb dX6_wrongBy_22 rfl hl (by decide) rfl (fun ls hl => ?_)
    have lp_23 : ∀ (D k : Nat), ((md 0 2).toNatClampNeg) - k < D → k ≤ (md 0 2).toNatClampNeg → ∀ (ls : Array Slot) (H : Heap) (locs : List Loc), hR g (putD g M q (up2 md 7 19 0)) H → va_S (gA g) s.heap H locs → lv_has ls 4 [(3, .int (nI k)), (2, .int (itr (wbM (md 0) v) 0 k)), (0, .ref q), (1, .int v)] → W p l e (rmOf 5 0 0) s m [.ref q, .int v].toArray below meth c H locs 0 0 (vx_MQ below (KQ g (.inl (some (.int (if inB v 0 (md 0 4 - 1) then itr (wbM (md 0) v) 0 (md 0 2).toNatClampNeg else 0)), (putD g M q (up2 md 7 19 (if inB v 0 (md 0 4 - 1) then 0 else 1)))))) (KX g (.inl (some (.int (if inB v 0 (md 0 4 - 1) then itr (wbM (md 0) v) 0 (md 0 2).toNatClampNeg else 0)), (putD g M q (up2 md 7 19 (if inB v 0 (md 0 4 - 1) then 0 else 1)))))) [.ref q, .int v].toArray s 0 0 (gA g)) (F0 m 23 ls []) := by
      intro D
      induction D with
      | zero => intro k hD; exact absurd hD (Nat.not_lt_zero _)
      | succ D ih_23 =>
        intro k hD hk ls H locs hM hS hl
        refine lv_iload_n hx hb dX6_wrongBy_23 rfl (lv_at hl 0 rfl) ?_
        refine lv_aload_n hx hb dX6_wrongBy_24 rfl (lv_at hl 2 rfl) ?_
        refine gt_X6_9 hc dX6_wrongBy_25 hM hW.o rfl ?_
        refine lv_iconst (v := 2) hx hb dX6_wrongBy_28 (by decide) ?_
        refine k_ialdN hc hM (n := 81) (show (putD g M q (up2 md 7 19 0)) (q + 1) = some (.inl (gI g, 81, .inl (md 0))) from (hW.ar 0 (by decide) (by decide) rfl rfl)) (X := 2) rfl (by omega) (by decide) dX6_wrongBy_29 ?_
        refine lv_icmp_ge (tgt := 70) hx hb dX6_wrongBy_30 (by decide) (fun c_30 => ?_) (fun c_30 => ?_)
        · skip
          have c_30 : (md 0 2).toNatClampNeg ≤ k := (k_le (by have := k_clamp_lt (md 0 2); omega)).mp c_30
          have z_2 : (itr (wbM (md 0) v) 0 k) = (itr (wbM (md 0) v) 0 (md 0 2).toNatClampNeg) := (by rw [show k = (md 0 2).toNatClampNeg by omega])
          have hl := lv_chg (lv_sub hl [1, 0, 2, 3] rfl) z_2
          refine lv_iload_n hx hb dX6_wrongBy_70 rfl (lv_at hl 0 rfl) ?_
          exact k_iret hc hr dX6_wrongBy_71 hM hS (Nat.le_of_ble_eq_true rfl) (Nat.le_of_ble_eq_true rfl) (by first | (simp only [eq_self, eq_true c_10, eq_true c_30, eq_self, bM_l, bM_r, rsM_l, rsM_r, seV_l, seV_r, snE_l, snE_r, up1_at, up1_up1, up2_up2, not_false_eq_true, not_true_eq_false, and_true, true_and, and_false, false_and, and_self, ↓reduceIte, or_true, true_or, or_self, or_false, false_or]; done) | (simp only [eq_self, eq_true c_10, eq_true c_30, eq_self, bM_l, bM_r, rsM_l, rsM_r, seV_l, seV_r, snE_l, snE_r, up1_at, up1_up1, up2_up2, not_false_eq_true, not_true_eq_false, and_true, true_and, and_false, false_and, and_self, ↓reduceIte, or_true, true_or, or_self, or_false, false_or]; rfl))
        · skip
          have c_30 : ¬ (md 0 2).toNatClampNeg ≤ k := fun h => c_30 ((k_le (by have := k_clamp_lt (md 0 2); omega)).mpr h)
          have ok_30 := kS_ok (f := md 0) hI c_30
          refine lv_aload_n hx hb dX6_wrongBy_33 rfl (lv_at hl 2 rfl) ?_
          refine lv_iload_n hx hb dX6_wrongBy_34 rfl (lv_at hl 0 rfl) ?_
          refine lv_iload_n hx hb dX6_wrongBy_35 rfl (lv_at hl 3 rfl) ?_
          refine k_V1 (v := .int (mD (md 0) (nI k) v)) hc [.int (nI k), .int v] cw_X6_125 rfl dX6_wrongBy_36 (c_X6_drawn l hlf g _ q (up2 md 7 19 0) (nI k) v hW (by first | assumption | decide) (by first | assumption | decide)) hW.o hM hS hl.1 rfl rfl ⟨Nat.le_of_ble_eq_true rfl, Nat.le_of_ble_eq_true rfl⟩ ⟨Nat.le_of_ble_eq_true rfl, Nat.le_of_ble_eq_true rfl⟩ (Nat.le_of_ble_eq_true rfl) (fun H locs hM hS => ?_)
          refine lv_if_lt (tgt := 64) hx hb dX6_wrongBy_39 (by decide) (fun c_39 => ?_) (fun c_39 => ?_)
          · skip
            have c_39 : mD (md 0) (nI k) v < 0 := c_39
            refine lv_iinc (v := (nI (k + 1))) (lv' := [(3, .int (nI (k + 1))), (2, .int (itr (wbM (md 0) v) 0 k)), (0, .ref q), (1, .int v)]) hx hb dX6_wrongBy_64 hl (k := 0) rfl (k_inc1 _) (by decide) rfl (fun ls hl => ?_)
            refine lv_goto (tgt := 23) hx hb dX6_wrongBy_67 (by decide) ?_
            have z_2 : (itr (wbM (md 0) v) 0 k) = (itr (wbM (md 0) v) 0 (k + 1)) := (by rw [itr_s]; simp only [wbM, eq_true c_10, eq_false c_30, eq_true c_39, not_false_eq_true, not_true_eq_false, and_true, true_and, and_false, false_and, and_self, ↓reduceIte, or_true, true_or, or_self, or_false, false_or]; try rfl)
            have hl := lv_chg (lv_sub hl [1, 0, 2, 3] rfl) z_2
            exact ih_23 (k + 1) (by omega) (by omega) ls _ _ hM hS (lv_sub hl [1, 0, 2, 3] rfl)
          · skip
            have c_39 : ¬ mD (md 0) (nI k) v < 0 := c_39
            refine lv_iload_n hx hb dX6_wrongBy_42 rfl (lv_at hl 1 rfl) ?_
            refine lv_aload_n hx hb dX6_wrongBy_43 rfl (lv_at hl 2 rfl) ?_
            refine lv_iload_n hx hb dX6_wrongBy_44 rfl (lv_at hl 0 rfl) ?_
            refine lv_iload_n hx hb dX6_wrongBy_45 rfl (lv_at hl 3 rfl) ?_
            refine k_V1 (v := .int (mD (md 0) (nI k) v)) hc [.int (nI k), .int v] cw_X6_125 rfl dX6_wrongBy_46 (c_X6_drawn l hlf g _ q (up2 md 7 19 0) (nI k) v hW (by first | assumption | decide) (by first | assumption | decide)) hW.o hM hS hl.1 rfl rfl ⟨Nat.le_of_ble_eq_true rfl, Nat.le_of_ble_eq_true rfl⟩ ⟨Nat.le_of_ble_eq_true rfl, Nat.le_of_ble_eq_true rfl⟩ (Nat.le_of_ble_eq_true rfl) (fun H locs hM hS => ?_)
            refine lv_aload_n hx hb dX6_wrongBy_49 rfl (lv_at hl 2 rfl) ?_
            refine gt_X6_9 hc dX6_wrongBy_50 hM hW.o rfl ?_
            refine lv_bipush (v := 9) hx hb dX6_wrongBy_53 (by decide) ?_
            refine lv_iload_n hx hb dX6_wrongBy_55 rfl (lv_at hl 0 rfl) ?_
            refine lv_iadd hx hb dX6_wrongBy_56 ?_
            refine k_iald hc hM (show (putD g M q (up2 md 7 19 0)) (q + 1) = some (.inl (gI g, 81, .inl (md 0))) from (hW.ar 0 (by decide) (by decide) rfl rfl)) (inS (by assumption)) dX6_wrongBy_57 ?_
            refine lv_isub hx hb dX6_wrongBy_58 ?_
            refine k_abs hc q_X6_94 dX6_wrongBy_59 hl.1 ⟨Nat.le_of_ble_eq_true rfl, Nat.le_of_ble_eq_true rfl, Nat.le_of_ble_eq_true rfl, Nat.le_of_ble_eq_true rfl⟩ ?_
            refine lv_iadd hx hb dX6_wrongBy_62 ?_
            refine lv_istore_n (lv' := [(2, .int ((itr (wbM (md 0) v) 0 k) + (absI ((mD (md 0) (nI k) v) - ((md 0) (9 + (nI k)).toNatClampNeg))))), (3, .int (nI k)), (0, .ref q), (1, .int v)]) hx hb dX6_wrongBy_63 rfl hl (by decide) rfl (fun ls hl => ?_)
            refine lv_iinc (v := (nI (k + 1))) (lv' := [(3, .int (nI (k + 1))), (2, .int ((itr (wbM (md 0) v) 0 k) + (absI ((mD (md 0) (nI k) v) - ((md 0) (9 + (nI k)).toNatClampNeg))))), (0, .ref q), (1, .int v)]) hx hb dX6_wrongBy_64 hl (k := 1) rfl (k_inc1 _) (by decide) rfl (fun ls hl => ?_)
            refine lv_goto (tgt := 23) hx hb dX6_wrongBy_67 (by decide) ?_
            have z_2 : ((itr (wbM (md 0) v) 0 k) + (absI ((mD (md 0) (nI k) v) - ((md 0) (9 + (nI k)).toNatClampNeg)))) = (itr (wbM (md 0) v) 0 (k + 1)) := (by rw [itr_s]; simp only [wbM, eq_true c_10, eq_false c_30, eq_false c_39, not_false_eq_true, not_true_eq_false, and_true, true_and, and_false, false_and, and_self, ↓reduceIte, or_true, true_or, or_self, or_false, false_or]; try rfl)
            have hl := lv_chg (lv_sub hl [1, 0, 2, 3] rfl) z_2
            exact ih_23 (k + 1) (by omega) (by omega) ls _ _ hM hS (lv_sub hl [1, 0, 2, 3] rfl)
    have z_3 : 0 = (nI 0) := rfl
    have hl := lv_chg (lv_sub hl [0, 1, 2, 3] rfl) z_3
    have z_2 : 0 = (itr (wbM (md 0) v) 0 0) := rfl
    have hl := lv_chg (lv_sub hl [1, 0, 2, 3] rfl) z_2
    exact lp_23 ((md 0 2).toNatClampNeg + 1) 0 (by omega) (by omega) ls _ _ hM hS (lv_sub hl [1, 0, 2, 3] rfl)
  · skip
    have c_10 := bI_eq.mp c_10
    refine lv_aload_n hx hb dX6_wrongBy_13 rfl (lv_at hl 0 rfl) ?_
    refine lv_iconst (v := 1) hx hb dX6_wrongBy_14 (by decide) ?_
    refine k_V1 (v := .int 0) hc [.int 1] cw_X6_61 rfl dX6_wrongBy_15 (c_X6_raises l hlf g _ q (up2 md 7 19 0) 1 hW) hW.o hM hS hl.1 rfl rfl ⟨Nat.le_of_ble_eq_true rfl, Nat.le_of_ble_eq_true rfl⟩ ⟨Nat.le_of_ble_eq_true rfl, Nat.le_of_ble_eq_true rfl⟩ (Nat.le_of_ble_eq_true rfl) (fun H locs hM hS => ?_)
    have hM := hR.eq hM putD_putD
    have hW := MdAt.put (g := g) (M := M) (m := q) (md := (up2 (up2 md 7 19 0) 7 19 1))
    exact k_iret hc hr dX6_wrongBy_18 hM hS (Nat.le_of_ble_eq_true rfl) (Nat.le_of_ble_eq_true rfl) (by first | (simp only [eq_self, eq_false c_10, eq_self, bM_l, bM_r, rsM_l, rsM_r, seV_l, seV_r, snE_l, snE_r, up1_at, up1_up1, up2_up2, not_false_eq_true, not_true_eq_false, and_true, true_and, and_false, false_and, and_self, ↓reduceIte, or_true, true_or, or_self, or_false, false_or]; done) | (simp only [eq_self, eq_false c_10, eq_self, bM_l, bM_r, rsM_l, rsM_r, seV_l, seV_r, snE_l, snE_r, up1_at, up1_up1, up2_up2, not_false_eq_true, not_true_eq_false, and_true, true_and, and_false, false_and, and_self, ↓reduceIte, or_true, true_or, or_self, or_false, false_or]; rfl))
set_option maxHeartbeats 4000000 in
set_option maxRecDepth 100000 in
theorem c_X6_seems (l : Launch) (hlf : l.stackTraces = false) (g : GC) (M : HM) (q : Nat) (md : FL) (v : Int32) (w : Int32) (hW : MdAt g M q md) (hI : mOk (md 0)) : KM g l yX6_seems cX6_seems 3 (some .int) 7 0 0 [.ref q, .int v, .int w] M (.inl (some (.int (if inB v 0 (md 0 2 - 1) ∧ inB w 0 (md 0 3 - 1) then seM (md 0) v w else 0)), (putD g M q (up2 md 7 19 (if inB v 0 (md 0 2 - 1) ∧ inB w 0 (md 0 3 - 1) then 0 else 1))))) := by
  refine k_meth hlf (by decide) (Nat.le_of_ble_eq_true rfl) fun p e s m below meth c ls hc hr hnx hM hS hl => ?_
  have hc : Cx g p l s m [.ref q, .int v, .int w].toArray meth c cX6_seems 3 RX6 := hc
  have hx := hc.1
  have hb := hc.2.1
  have hl : lv_has ls 3 [(0, .ref q), (1, .int v), (2, .int w)] := hl
  refine lv_aload_n hx hb dX6_seems_0 rfl (lv_at hl 0 rfl) ?_
  refine lv_iconst (v := 0) hx hb dX6_seems_1 (by decide) ?_
  refine pt_X6_36 hc dX6_seems_2 hM hS hW.o rfl rfl (Nat.le_of_ble_eq_true rfl) (fun H locs hM hS => ?_)
  have hM := hR.eq hM (putD_sc hW 19 (v := 0) md_s19)
  have hW := MdAt.put (g := g) (M := M) (m := q) (md := (up2 md 7 19 0))
  refine lv_aload_n hx hb dX6_seems_5 rfl (lv_at hl 0 rfl) ?_
  refine lv_iload_n hx hb dX6_seems_6 rfl (lv_at hl 1 rfl) ?_
  refine k_V1 (v := .int (bI (inB v 0 ((md 0) 2 - 1)))) hc [.int v] cw_X6_103 rfl dX6_seems_7 (c_X6_isStake l hlf g _ q (up2 md 7 19 0) v hW) hW.o hM hS hl.1 rfl rfl ⟨Nat.le_of_ble_eq_true rfl, Nat.le_of_ble_eq_true rfl⟩ ⟨Nat.le_of_ble_eq_true rfl, Nat.le_of_ble_eq_true rfl⟩ (Nat.le_of_ble_eq_true rfl) (fun H locs hM hS => ?_)
  refine lv_if_eq (tgt := 30) hx hb dX6_seems_10 (by decide) (fun c_10 => ?_) (fun c_10 => ?_)
  · skip
    have c_10 := bI_eq.mp c_10
    refine lv_aload_n hx hb dX6_seems_30 rfl (lv_at hl 0 rfl) ?_
    refine lv_iconst (v := 1) hx hb dX6_seems_31 (by decide) ?_
    refine k_V1 (v := .int 0) hc [.int 1] cw_X6_61 rfl dX6_seems_32 (c_X6_raises l hlf g _ q (up2 md 7 19 0) 1 hW) hW.o hM hS hl.1 rfl rfl ⟨Nat.le_of_ble_eq_true rfl, Nat.le_of_ble_eq_true rfl⟩ ⟨Nat.le_of_ble_eq_true rfl, Nat.le_of_ble_eq_true rfl⟩ (Nat.le_of_ble_eq_true rfl) (fun H locs hM hS => ?_)
    have hM := hR.eq hM putD_putD
    have hW := MdAt.put (g := g) (M := M) (m := q) (md := (up2 (up2 md 7 19 0) 7 19 1))
    exact k_iret hc hr dX6_seems_35 hM hS (Nat.le_of_ble_eq_true rfl) (Nat.le_of_ble_eq_true rfl) (by first | (simp only [eq_self, eq_false c_10, eq_self, bM_l, bM_r, rsM_l, rsM_r, seV_l, seV_r, snE_l, snE_r, up1_at, up1_up1, up2_up2, not_false_eq_true, not_true_eq_false, and_true, true_and, and_false, false_and, and_self, ↓reduceIte, or_true, true_or, or_self, or_false, false_or]; done) | (simp only [eq_self, eq_false c_10, eq_self, bM_l, bM_r, rsM_l, rsM_r, seV_l, seV_r, snE_l, snE_r, up1_at, up1_up1, up2_up2, not_false_eq_true, not_true_eq_false, and_true, true_and, and_false, false_and, and_self, ↓reduceIte, or_true, true_or, or_self, or_false, false_or]; rfl))
  · skip
    have c_10 := bI_ne.mp c_10
    have ok_10 := isS_ok (f := md 0) hI c_10
    refine lv_aload_n hx hb dX6_seems_13 rfl (lv_at hl 0 rfl) ?_
    refine lv_iload_n hx hb dX6_seems_14 rfl (lv_at hl 2 rfl) ?_
    refine k_V1 (v := .int (bI (inB w 0 ((md 0) 3 - 1)))) hc [.int w] cw_X6_107 rfl dX6_seems_15 (c_X6_isPost l hlf g _ q (up2 md 7 19 0) w hW) hW.o hM hS hl.1 rfl rfl ⟨Nat.le_of_ble_eq_true rfl, Nat.le_of_ble_eq_true rfl⟩ ⟨Nat.le_of_ble_eq_true rfl, Nat.le_of_ble_eq_true rfl⟩ (Nat.le_of_ble_eq_true rfl) (fun H locs hM hS => ?_)
    refine lv_if_eq (tgt := 30) hx hb dX6_seems_18 (by decide) (fun c_18 => ?_) (fun c_18 => ?_)
    · skip
      have c_18 := bI_eq.mp c_18
      refine lv_aload_n hx hb dX6_seems_30 rfl (lv_at hl 0 rfl) ?_
      refine lv_iconst (v := 1) hx hb dX6_seems_31 (by decide) ?_
      refine k_V1 (v := .int 0) hc [.int 1] cw_X6_61 rfl dX6_seems_32 (c_X6_raises l hlf g _ q (up2 md 7 19 0) 1 hW) hW.o hM hS hl.1 rfl rfl ⟨Nat.le_of_ble_eq_true rfl, Nat.le_of_ble_eq_true rfl⟩ ⟨Nat.le_of_ble_eq_true rfl, Nat.le_of_ble_eq_true rfl⟩ (Nat.le_of_ble_eq_true rfl) (fun H locs hM hS => ?_)
      have hM := hR.eq hM putD_putD
      have hW := MdAt.put (g := g) (M := M) (m := q) (md := (up2 (up2 md 7 19 0) 7 19 1))
      exact k_iret hc hr dX6_seems_35 hM hS (Nat.le_of_ble_eq_true rfl) (Nat.le_of_ble_eq_true rfl) (by first | (simp only [eq_self, eq_true c_10, eq_false c_18, eq_self, bM_l, bM_r, rsM_l, rsM_r, seV_l, seV_r, snE_l, snE_r, up1_at, up1_up1, up2_up2, not_false_eq_true, not_true_eq_false, and_true, true_and, and_false, false_and, and_self, ↓reduceIte, or_true, true_or, or_self, or_false, false_or]; done) | (simp only [eq_self, eq_true c_10, eq_false c_18, eq_self, bM_l, bM_r, rsM_l, rsM_r, seV_l, seV_r, snE_l, snE_r, up1_at, up1_up1, up2_up2, not_false_eq_true, not_true_eq_false, and_true, true_and, and_false, false_and, and_self, ↓reduceIte, or_true, true_or, or_self, or_false, false_or]; rfl))
    · skip
      have c_18 := bI_ne.mp c_18
      have ok_18 := isP_ok (f := md 0) hI c_18
      refine lv_aload_n hx hb dX6_seems_21 rfl (lv_at hl 0 rfl) ?_
      refine lv_iload_n hx hb dX6_seems_22 rfl (lv_at hl 1 rfl) ?_
      refine lv_iload_n hx hb dX6_seems_23 rfl (lv_at hl 2 rfl) ?_
      refine k_V1 (v := .int (seM (md 0) v w)) hc [.int v, .int w] cw_X6_116 rfl dX6_seems_24 (c_X6_seemsFrom l hlf g _ q (up2 md 7 19 0) v w hW (by first | assumption | decide) (by first | assumption | decide)) hW.o hM hS hl.1 rfl rfl ⟨Nat.le_of_ble_eq_true rfl, Nat.le_of_ble_eq_true rfl⟩ ⟨Nat.le_of_ble_eq_true rfl, Nat.le_of_ble_eq_true rfl⟩ (Nat.le_of_ble_eq_true rfl) (fun H locs hM hS => ?_)
      refine lv_goto (tgt := 35) hx hb dX6_seems_27 (by decide) ?_
      exact k_iret hc hr dX6_seems_35 hM hS (Nat.le_of_ble_eq_true rfl) (Nat.le_of_ble_eq_true rfl) (by first | (simp only [eq_self, eq_true c_10, eq_true c_18, eq_self, bM_l, bM_r, rsM_l, rsM_r, seV_l, seV_r, snE_l, snE_r, up1_at, up1_up1, up2_up2, not_false_eq_true, not_true_eq_false, and_true, true_and, and_false, false_and, and_self, ↓reduceIte, or_true, true_or, or_self, or_false, false_or]; done) | (simp only [eq_self, eq_true c_10, eq_true c_18, eq_self, bM_l, bM_r, rsM_l, rsM_r, seV_l, seV_r, snE_l, snE_r, up1_at, up1_up1, up2_up2, not_false_eq_true, not_true_eq_false, and_true, true_and, and_false, false_and, and_self, ↓reduceIte, or_true, true_or, or_self, or_false, false_or]; rfl))
set_option maxHeartbeats 4000000 in
set_option maxRecDepth 100000 in
theorem c_X6_seemsAgain (l : Launch) (hlf : l.stackTraces = false) (g : GC) (M : HM) (q : Nat) (md : FL) (v : Int32) (w : Int32) (hW : MdAt g M q md) (hI : mOk (md 0)) : KM g l yX6_seemsAgain cX6_seemsAgain 3 (some .int) 8 0 0 [.ref q, .int v, .int w] M (.inl (some (.int (if inB v 0 (md 0 2 - 1) ∧ inB w 0 (md 0 3 - 1) then seM (md 0) v w else 0)), (putD g M q (up2 md 7 19 (if inB v 0 (md 0 2 - 1) ∧ inB w 0 (md 0 3 - 1) then 0 else 1))))) := by
  refine k_meth hlf (by decide) (Nat.le_of_ble_eq_true rfl) fun p e s m below meth c ls hc hr hnx hM hS hl => ?_
  have hc : Cx g p l s m [.ref q, .int v, .int w].toArray meth c cX6_seemsAgain 3 RX6 := hc
  have hx := hc.1
  have hb := hc.2.1
  have hl : lv_has ls 3 [(0, .ref q), (1, .int v), (2, .int w)] := hl
  refine lv_aload_n hx hb dX6_seemsAgain_0 rfl (lv_at hl 0 rfl) ?_
  refine lv_iload_n hx hb dX6_seemsAgain_1 rfl (lv_at hl 1 rfl) ?_
  refine lv_iload_n hx hb dX6_seemsAgain_2 rfl (lv_at hl 2 rfl) ?_
  refine k_V1 hc [.int v, .int w] cw_X6_160 rfl dX6_seemsAgain_3 (c_X6_seems l hlf g _ q md v w hW (by first | assumption | exact hI)) hW.o hM hS hl.1 rfl rfl ⟨Nat.le_of_ble_eq_true rfl, Nat.le_of_ble_eq_true rfl⟩ ⟨Nat.le_of_ble_eq_true rfl, Nat.le_of_ble_eq_true rfl⟩ (Nat.le_of_ble_eq_true rfl) (fun H locs hM hS => ?_)
  have hW := MdAt.put (g := g) (M := M) (m := q) (md := (up2 md 7 19 (if inB v 0 (md 0 2 - 1) ∧ inB w 0 (md 0 3 - 1) then 0 else 1)))
  exact k_iret hc hr dX6_seemsAgain_6 hM hS (Nat.le_of_ble_eq_true rfl) (Nat.le_of_ble_eq_true rfl) (by rfl)
set_option maxHeartbeats 4000000 in
set_option maxRecDepth 100000 in
theorem c_X6_shimmers (l : Launch) (hlf : l.stackTraces = false) (g : GC) (M : HM) (q : Nat) (md : FL) (v : Int32) (w : Int32) (hW : MdAt g M q md) (hI : mOk (md 0)) : KM g l yX6_shimmers cX6_shimmers 3 (some .boolean) 7 0 0 [.ref q, .int v, .int w] M (.inl (some (.int (bI ((inB v 0 (md 0 2 - 1) ∧ inB w 0 (md 0 3 - 1)) ∧ shM (md 0) v w (mHb (md 0) 0)))), (putD g M q (up2 md 7 19 (if inB v 0 (md 0 2 - 1) ∧ inB w 0 (md 0 3 - 1) then 0 else 1))))) := by
  refine k_meth hlf (by decide) (Nat.le_of_ble_eq_true rfl) fun p e s m below meth c ls hc hr hnx hM hS hl => ?_
  have hc : Cx g p l s m [.ref q, .int v, .int w].toArray meth c cX6_shimmers 3 RX6 := hc
  have hx := hc.1
  have hb := hc.2.1
  have hl : lv_has ls 3 [(0, .ref q), (1, .int v), (2, .int w)] := hl
  refine lv_aload_n hx hb dX6_shimmers_0 rfl (lv_at hl 0 rfl) ?_
  refine lv_aload_n hx hb dX6_shimmers_1 rfl (lv_at hl 0 rfl) ?_
  refine lv_iload_n hx hb dX6_shimmers_2 rfl (lv_at hl 1 rfl) ?_
  refine k_V1 (v := .int (bI (inB v 0 ((md 0) 2 - 1)))) hc [.int v] cw_X6_103 rfl dX6_shimmers_3 (c_X6_isStake l hlf g _ q md v hW) hW.o hM hS hl.1 rfl rfl ⟨Nat.le_of_ble_eq_true rfl, Nat.le_of_ble_eq_true rfl⟩ ⟨Nat.le_of_ble_eq_true rfl, Nat.le_of_ble_eq_true rfl⟩ (Nat.le_of_ble_eq_true rfl) (fun H locs hM hS => ?_)
  refine lv_if_eq (tgt := 21) hx hb dX6_shimmers_6 (by decide) (fun c_6 => ?_) (fun c_6 => ?_)
  · skip
    have c_6 := bI_eq.mp c_6
    refine lv_iconst (v := 1) hx hb dX6_shimmers_21 (by decide) ?_
    refine pt_X6_36 hc dX6_shimmers_22 hM hS hW.o rfl rfl (Nat.le_of_ble_eq_true rfl) (fun H locs hM hS => ?_)
    have hM := hR.eq hM (putD_sc hW 19 (v := 1) md_s19)
    have hW := MdAt.put (g := g) (M := M) (m := q) (md := (up2 md 7 19 1))
    refine lv_aload_n hx hb dX6_shimmers_25 rfl (lv_at hl 0 rfl) ?_
    refine gt_X6_36 hc dX6_shimmers_26 hM hW.o (v := .int 1) rfl ?_
    refine lv_if_ne (tgt := 50) hx hb dX6_shimmers_29 (by decide) (fun c_29 => ?_) (fun c_29 => ?_)
    · skip
      refine lv_iconst (v := 0) hx hb dX6_shimmers_50 (by decide) ?_
      exact k_zret hc hr dX6_shimmers_51 hM hS (by first | rfl | exact bI_n) (Nat.le_of_ble_eq_true rfl) (Nat.le_of_ble_eq_true rfl) (by first | (simp only [bI, eq_false c_6, eq_false c_29, eq_self, bM_l, bM_r, rsM_l, rsM_r, seV_l, seV_r, snE_l, snE_r, up1_at, up1_up1, up2_up2, not_false_eq_true, not_true_eq_false, and_true, true_and, and_false, false_and, and_self, ↓reduceIte, or_true, true_or, or_self, or_false, false_or]; done) | (simp only [bI, eq_false c_6, eq_false c_29, eq_self, bM_l, bM_r, rsM_l, rsM_r, seV_l, seV_r, snE_l, snE_r, up1_at, up1_up1, up2_up2, not_false_eq_true, not_true_eq_false, and_true, true_and, and_false, false_and, and_self, ↓reduceIte, or_true, true_or, or_self, or_false, false_or]; rfl))
    · skip
      exact absurd c_29 (by decide)
  · skip
    have c_6 := bI_ne.mp c_6
    have ok_6 := isS_ok (f := md 0) hI c_6
    refine lv_aload_n hx hb dX6_shimmers_9 rfl (lv_at hl 0 rfl) ?_
    refine lv_iload_n hx hb dX6_shimmers_10 rfl (lv_at hl 2 rfl) ?_
    refine k_V1 (v := .int (bI (inB w 0 ((md 0) 3 - 1)))) hc [.int w] cw_X6_107 rfl dX6_shimmers_11 (c_X6_isPost l hlf g _ q md w hW) hW.o hM hS hl.1 rfl rfl ⟨Nat.le_of_ble_eq_true rfl, Nat.le_of_ble_eq_true rfl⟩ ⟨Nat.le_of_ble_eq_true rfl, Nat.le_of_ble_eq_true rfl⟩ (Nat.le_of_ble_eq_true rfl) (fun H locs hM hS => ?_)
    refine lv_if_eq (tgt := 21) hx hb dX6_shimmers_14 (by decide) (fun c_14 => ?_) (fun c_14 => ?_)
    · skip
      have c_14 := bI_eq.mp c_14
      refine lv_iconst (v := 1) hx hb dX6_shimmers_21 (by decide) ?_
      refine pt_X6_36 hc dX6_shimmers_22 hM hS hW.o rfl rfl (Nat.le_of_ble_eq_true rfl) (fun H locs hM hS => ?_)
      have hM := hR.eq hM (putD_sc hW 19 (v := 1) md_s19)
      have hW := MdAt.put (g := g) (M := M) (m := q) (md := (up2 md 7 19 1))
      refine lv_aload_n hx hb dX6_shimmers_25 rfl (lv_at hl 0 rfl) ?_
      refine gt_X6_36 hc dX6_shimmers_26 hM hW.o (v := .int 1) rfl ?_
      refine lv_if_ne (tgt := 50) hx hb dX6_shimmers_29 (by decide) (fun c_29 => ?_) (fun c_29 => ?_)
      · skip
        refine lv_iconst (v := 0) hx hb dX6_shimmers_50 (by decide) ?_
        exact k_zret hc hr dX6_shimmers_51 hM hS (by first | rfl | exact bI_n) (Nat.le_of_ble_eq_true rfl) (Nat.le_of_ble_eq_true rfl) (by first | (simp only [bI, eq_true c_6, eq_false c_14, eq_false c_29, eq_self, bM_l, bM_r, rsM_l, rsM_r, seV_l, seV_r, snE_l, snE_r, up1_at, up1_up1, up2_up2, not_false_eq_true, not_true_eq_false, and_true, true_and, and_false, false_and, and_self, ↓reduceIte, or_true, true_or, or_self, or_false, false_or]; done) | (simp only [bI, eq_true c_6, eq_false c_14, eq_false c_29, eq_self, bM_l, bM_r, rsM_l, rsM_r, seV_l, seV_r, snE_l, snE_r, up1_at, up1_up1, up2_up2, not_false_eq_true, not_true_eq_false, and_true, true_and, and_false, false_and, and_self, ↓reduceIte, or_true, true_or, or_self, or_false, false_or]; rfl))
      · skip
        exact absurd c_29 (by decide)
    · skip
      have c_14 := bI_ne.mp c_14
      have ok_14 := isP_ok (f := md 0) hI c_14
      refine lv_iconst (v := 0) hx hb dX6_shimmers_17 (by decide) ?_
      refine lv_goto (tgt := 22) hx hb dX6_shimmers_18 (by decide) ?_
      refine pt_X6_36 hc dX6_shimmers_22 hM hS hW.o rfl rfl (Nat.le_of_ble_eq_true rfl) (fun H locs hM hS => ?_)
      have hM := hR.eq hM (putD_sc hW 19 (v := 0) md_s19)
      have hW := MdAt.put (g := g) (M := M) (m := q) (md := (up2 md 7 19 0))
      refine lv_aload_n hx hb dX6_shimmers_25 rfl (lv_at hl 0 rfl) ?_
      refine gt_X6_36 hc dX6_shimmers_26 hM hW.o (v := .int 0) rfl ?_
      refine lv_if_ne (tgt := 50) hx hb dX6_shimmers_29 (by decide) (fun c_29 => ?_) (fun c_29 => ?_)
      · skip
        exact absurd c_29 (by decide)
      · skip
        refine lv_aload_n hx hb dX6_shimmers_32 rfl (lv_at hl 0 rfl) ?_
        refine lv_iload_n hx hb dX6_shimmers_33 rfl (lv_at hl 1 rfl) ?_
        refine lv_iload_n hx hb dX6_shimmers_34 rfl (lv_at hl 2 rfl) ?_
        refine lv_aload_n hx hb dX6_shimmers_35 rfl (lv_at hl 0 rfl) ?_
        refine lv_iconst (v := 0) hx hb dX6_shimmers_36 (by decide) ?_
        refine k_V1 (v := .int (mHb (md 0) 0)) hc [.int 0] cw_X6_88 rfl dX6_shimmers_37 (c_X6_heatBehind l hlf g _ q (up2 md 7 19 0) 0 hW) hW.o hM hS hl.1 rfl rfl ⟨Nat.le_of_ble_eq_true rfl, Nat.le_of_ble_eq_true rfl⟩ ⟨Nat.le_of_ble_eq_true rfl, Nat.le_of_ble_eq_true rfl⟩ (Nat.le_of_ble_eq_true rfl) (fun H locs hM hS => ?_)
        refine k_V1 (v := .int (bI (shM (md 0) v w (mHb (md 0) 0)))) hc [.int v, .int w, .int (mHb (md 0) 0)] cw_X6_113 rfl dX6_shimmers_40 (c_X6_shimmersBy l hlf g _ q (up2 md 7 19 0) v w (mHb (md 0) 0) hW (by first | assumption | decide) (by first | assumption | decide)) hW.o hM hS hl.1 rfl rfl ⟨Nat.le_of_ble_eq_true rfl, Nat.le_of_ble_eq_true rfl⟩ ⟨Nat.le_of_ble_eq_true rfl, Nat.le_of_ble_eq_true rfl⟩ (Nat.le_of_ble_eq_true rfl) (fun H locs hM hS => ?_)
        refine lv_if_eq (tgt := 50) hx hb dX6_shimmers_43 (by decide) (fun c_43 => ?_) (fun c_43 => ?_)
        · skip
          have c_43 := bI_eq.mp c_43
          refine lv_iconst (v := 0) hx hb dX6_shimmers_50 (by decide) ?_
          exact k_zret hc hr dX6_shimmers_51 hM hS (by first | rfl | exact bI_n) (Nat.le_of_ble_eq_true rfl) (Nat.le_of_ble_eq_true rfl) (by first | (simp only [bI, eq_true c_6, eq_true c_14, eq_true c_29, eq_false c_43, eq_self, bM_l, bM_r, rsM_l, rsM_r, seV_l, seV_r, snE_l, snE_r, up1_at, up1_up1, up2_up2, not_false_eq_true, not_true_eq_false, and_true, true_and, and_false, false_and, and_self, ↓reduceIte, or_true, true_or, or_self, or_false, false_or]; done) | (simp only [bI, eq_true c_6, eq_true c_14, eq_true c_29, eq_false c_43, eq_self, bM_l, bM_r, rsM_l, rsM_r, seV_l, seV_r, snE_l, snE_r, up1_at, up1_up1, up2_up2, not_false_eq_true, not_true_eq_false, and_true, true_and, and_false, false_and, and_self, ↓reduceIte, or_true, true_or, or_self, or_false, false_or]; rfl))
        · skip
          have c_43 := bI_ne.mp c_43
          refine lv_iconst (v := 1) hx hb dX6_shimmers_46 (by decide) ?_
          refine lv_goto (tgt := 51) hx hb dX6_shimmers_47 (by decide) ?_
          exact k_zret hc hr dX6_shimmers_51 hM hS (by first | rfl | exact bI_n) (Nat.le_of_ble_eq_true rfl) (Nat.le_of_ble_eq_true rfl) (by first | (simp only [bI, eq_true c_6, eq_true c_14, eq_true c_29, eq_true c_43, eq_self, bM_l, bM_r, rsM_l, rsM_r, seV_l, seV_r, snE_l, snE_r, up1_at, up1_up1, up2_up2, not_false_eq_true, not_true_eq_false, and_true, true_and, and_false, false_and, and_self, ↓reduceIte, or_true, true_or, or_self, or_false, false_or]; done) | (simp only [bI, eq_true c_6, eq_true c_14, eq_true c_29, eq_true c_43, eq_self, bM_l, bM_r, rsM_l, rsM_r, seV_l, seV_r, snE_l, snE_r, up1_at, up1_up1, up2_up2, not_false_eq_true, not_true_eq_false, and_true, true_and, and_false, false_and, and_self, ↓reduceIte, or_true, true_or, or_self, or_false, false_or]; rfl))
