/-! the reference, a part -/
set_option maxHeartbeats 4000000 in
set_option maxRecDepth 100000 in
theorem c_X6_refuses (l : Launch) (hlf : l.stackTraces = false) (g : GC) (M : HM) (q : Nat) (md : FL) (v : Int32) (w : Int32) (hW : MdAt g M q md) : KM g l yX6_refuses cX6_refuses 3 (some .boolean) 1 0 0 [.ref q, .int v, .int w] M (.inl (some (.int 0), (putD g M q (rfM md v w)))) := by
  refine k_meth hlf (by decide) (Nat.le_of_ble_eq_true rfl) fun p e s m below meth c ls hc hr hnx hM hS hl => ?_
  have hc : Cx g p l s m [.ref q, .int v, .int w].toArray meth c cX6_refuses 3 RX6 := hc
  have hx := hc.1
  have hb := hc.2.1
  have hl : lv_has ls 3 [(0, .ref q), (1, .int v), (2, .int w)] := hl
  refine lv_aload_n hx hb dX6_refuses_0 rfl (lv_at hl 0 rfl) ?_
  refine lv_iload_n hx hb dX6_refuses_1 rfl (lv_at hl 1 rfl) ?_
  refine pt_X6_45 hc dX6_refuses_2 hM hS hW.o rfl rfl (Nat.le_of_ble_eq_true rfl) (fun H locs hM hS => ?_)
  have hM := hR.eq hM (putD_sc hW 14 (v := v) md_s14)
  have hW := MdAt.put (g := g) (M := M) (m := q) (md := (up2 md 7 14 v))
  refine lv_aload_n hx hb dX6_refuses_5 rfl (lv_at hl 0 rfl) ?_
  refine lv_iload_n hx hb dX6_refuses_6 rfl (lv_at hl 2 rfl) ?_
  refine pt_X6_48 hc dX6_refuses_7 hM hS hW.o rfl rfl (Nat.le_of_ble_eq_true rfl) (fun H locs hM hS => ?_)
  have hM := hR.eq hM (putD_sc hW 15 (v := w) md_s15)
  have hM := hR.eq hM putD_putD
  have hW := MdAt.put (g := g) (M := M) (m := q) (md := (up2 (up2 md 7 14 v) 7 15 w))
  refine lv_aload_n hx hb dX6_refuses_10 rfl (lv_at hl 0 rfl) ?_
  refine lv_aload_n hx hb dX6_refuses_11 rfl (lv_at hl 0 rfl) ?_
  refine gt_X6_39 hc dX6_refuses_12 hM hW.o rfl ?_
  refine pt_X6_51 hc dX6_refuses_15 hM hS hW.o rfl rfl (Nat.le_of_ble_eq_true rfl) (fun H locs hM hS => ?_)
  have hM := hR.eq hM (putD_sc hW 17 (v := ((up2 (up2 md 7 14 v) 7 15 w) 7 16)) md_s17)
  have hM := hR.eq hM putD_putD
  have hW := MdAt.put (g := g) (M := M) (m := q) (md := (up2 (up2 (up2 md 7 14 v) 7 15 w) 7 17 ((up2 (up2 md 7 14 v) 7 15 w) 7 16)))
  refine lv_iconst (v := 0) hx hb dX6_refuses_18 (by decide) ?_
  exact k_zret hc hr dX6_refuses_19 hM hS (by first | rfl | exact bI_n) (Nat.le_of_ble_eq_true rfl) (Nat.le_of_ble_eq_true rfl) (by rfl)
set_option maxHeartbeats 4000000 in
set_option maxRecDepth 100000 in
theorem c_X6_does (l : Launch) (hlf : l.stackTraces = false) (g : GC) (M : HM) (q : Nat) (md : FL) (v : Int32) (hW : MdAt g M q md) : KM g l yX6_does cX6_does 2 (some .boolean) 1 0 0 [.ref q, .int v] M (.inl (some (.int 1), (putD g M q (up2 md 7 18 v)))) := by
  refine k_meth hlf (by decide) (Nat.le_of_ble_eq_true rfl) fun p e s m below meth c ls hc hr hnx hM hS hl => ?_
  have hc : Cx g p l s m [.ref q, .int v].toArray meth c cX6_does 2 RX6 := hc
  have hx := hc.1
  have hb := hc.2.1
  have hl : lv_has ls 2 [(0, .ref q), (1, .int v)] := hl
  refine lv_aload_n hx hb dX6_does_0 rfl (lv_at hl 0 rfl) ?_
  refine lv_iload_n hx hb dX6_does_1 rfl (lv_at hl 1 rfl) ?_
  refine pt_X6_54 hc dX6_does_2 hM hS hW.o rfl rfl (Nat.le_of_ble_eq_true rfl) (fun H locs hM hS => ?_)
  have hM := hR.eq hM (putD_sc hW 18 (v := v) md_s18)
  have hW := MdAt.put (g := g) (M := M) (m := q) (md := (up2 md 7 18 v))
  refine lv_iconst (v := 1) hx hb dX6_does_5 (by decide) ?_
  exact k_zret hc hr dX6_does_6 hM hS (by first | rfl | exact bI_n) (Nat.le_of_ble_eq_true rfl) (Nat.le_of_ble_eq_true rfl) (by rfl)
set_option maxHeartbeats 4000000 in
set_option maxRecDepth 100000 in
theorem c_X6_ends (l : Launch) (hlf : l.stackTraces = false) (g : GC) (M : HM) (q : Nat) (md : FL) (v : Int32) (hW : MdAt g M q md) (hu : unOk md) : KM g l yX6_ends cX6_ends 2 (some .int) 2 0 0 [.ref q, .int v] M (.inl (some (.int (if v = 0 then 0 else md 7 18)), (putD g M q (if v = 0 then up2 md 7 19 1 else kpM md)))) := by
  refine k_meth hlf (by decide) (Nat.le_of_ble_eq_true rfl) fun p e s m below meth c ls hc hr hnx hM hS hl => ?_
  have hc : Cx g p l s m [.ref q, .int v].toArray meth c cX6_ends 2 RX6 := hc
  have hx := hc.1
  have hb := hc.2.1
  have hl : lv_has ls 2 [(0, .ref q), (1, .int v)] := hl
  refine lv_iload_n hx hb dX6_ends_0 rfl (lv_at hl 1 rfl) ?_
  refine lv_if_eq (tgt := 15) hx hb dX6_ends_1 (by decide) (fun c_1 => ?_) (fun c_1 => ?_)
  · skip
    refine lv_aload_n hx hb dX6_ends_15 rfl (lv_at hl 0 rfl) ?_
    refine lv_iconst (v := 1) hx hb dX6_ends_16 (by decide) ?_
    refine k_V1 hc [.int 1] cw_X6_61 rfl dX6_ends_17 (c_X6_raises l hlf g _ q md 1 hW) hW.o hM hS hl.1 rfl rfl ⟨Nat.le_of_ble_eq_true rfl, Nat.le_of_ble_eq_true rfl⟩ ⟨Nat.le_of_ble_eq_true rfl, Nat.le_of_ble_eq_true rfl⟩ (Nat.le_of_ble_eq_true rfl) (fun H locs hM hS => ?_)
    have hW := MdAt.put (g := g) (M := M) (m := q) (md := (up2 md 7 19 1))
    exact k_iret hc hr dX6_ends_20 hM hS (Nat.le_of_ble_eq_true rfl) (Nat.le_of_ble_eq_true rfl) (by first | rfl | (simp only [eq_true c_1, bM_l, bM_r, rsM_l, rsM_r, seV_l, seV_r, snE_l, snE_r, up1_at, up1_up1, up2_up2, not_false_eq_true, not_true_eq_false, and_true, true_and, and_false, false_and, and_self, ↓reduceIte, or_true, true_or, or_self, or_false, false_or]; done) | (simp only [eq_true c_1, bM_l, bM_r, rsM_l, rsM_r, seV_l, seV_r, snE_l, snE_r, up1_at, up1_up1, up2_up2, not_false_eq_true, not_true_eq_false, and_true, true_and, and_false, false_and, and_self, ↓reduceIte, or_true, true_or, or_self, or_false, false_or]; rfl))
  · skip
    refine lv_aload_n hx hb dX6_ends_4 rfl (lv_at hl 0 rfl) ?_
    refine lv_aload_n hx hb dX6_ends_5 rfl (lv_at hl 0 rfl) ?_
    refine gt_X6_54 hc dX6_ends_6 hM hW.o rfl ?_
    refine k_V1 hc [.int (md 7 18)] cw_X6_57 rfl dX6_ends_9 (c_X6_keeps l hlf g _ q md (md 7 18) hW (by first | assumption | exact hu)) hW.o hM hS hl.1 rfl rfl ⟨Nat.le_of_ble_eq_true rfl, Nat.le_of_ble_eq_true rfl⟩ ⟨Nat.le_of_ble_eq_true rfl, Nat.le_of_ble_eq_true rfl⟩ (Nat.le_of_ble_eq_true rfl) (fun H locs hM hS => ?_)
    have hW := MdAt.put (g := g) (M := M) (m := q) (md := (kpM md))
    refine lv_goto (tgt := 20) hx hb dX6_ends_12 (by decide) ?_
    exact k_iret hc hr dX6_ends_20 hM hS (Nat.le_of_ble_eq_true rfl) (Nat.le_of_ble_eq_true rfl) (by first | rfl | (simp only [eq_false c_1, bM_l, bM_r, rsM_l, rsM_r, seV_l, seV_r, snE_l, snE_r, up1_at, up1_up1, up2_up2, not_false_eq_true, not_true_eq_false, and_true, true_and, and_false, false_and, and_self, ↓reduceIte, or_true, true_or, or_self, or_false, false_or]; done) | (simp only [eq_false c_1, bM_l, bM_r, rsM_l, rsM_r, seV_l, seV_r, snE_l, snE_r, up1_at, up1_up1, up2_up2, not_false_eq_true, not_true_eq_false, and_true, true_and, and_false, false_and, and_self, ↓reduceIte, or_true, true_or, or_self, or_false, false_or]; rfl))
set_option maxHeartbeats 4000000 in
set_option maxRecDepth 100000 in
theorem c_X6_isStake (l : Launch) (hlf : l.stackTraces = false) (g : GC) (M : HM) (q : Nat) (md : FL) (v : Int32) (hW : MdAt g M q md) : KM g l yX6_isStake cX6_isStake 2 (some .boolean) 2 0 0 [.ref q, .int v] M (.inl (some (.int (bI (inB v 0 (md 0 2 - 1)))), M)) := by
  refine k_meth hlf (by decide) (Nat.le_of_ble_eq_true rfl) fun p e s m below meth c ls hc hr hnx hM hS hl => ?_
  have hc : Cx g p l s m [.ref q, .int v].toArray meth c cX6_isStake 2 RX6 := hc
  have hx := hc.1
  have hb := hc.2.1
  have hl : lv_has ls 2 [(0, .ref q), (1, .int v)] := hl
  refine lv_iload_n hx hb dX6_isStake_0 rfl (lv_at hl 1 rfl) ?_
  refine lv_iconst (v := 0) hx hb dX6_isStake_1 (by decide) ?_
  refine lv_aload_n hx hb dX6_isStake_2 rfl (lv_at hl 0 rfl) ?_
  refine gt_X6_9 hc dX6_isStake_3 hM hW.o rfl ?_
  refine lv_iconst (v := 2) hx hb dX6_isStake_6 (by decide) ?_
  refine k_ialdN hc hM (n := 81) (hW.ar 0 (by decide) (by decide) rfl rfl) (X := 2) rfl (by omega) (by decide) dX6_isStake_7 ?_
  refine lv_iconst (v := 1) hx hb dX6_isStake_8 (by decide) ?_
  refine lv_isub hx hb dX6_isStake_9 ?_
  refine k_S1 hc [.int v, .int 0, .int (((md 0) 2) - 1)] cw_X6_64 dX6_isStake_10 (c_X6_in l hlf g _ v 0 (((md 0) 2) - 1)) hM hS hl.1 rfl rfl ⟨Nat.le_of_ble_eq_true rfl, Nat.le_of_ble_eq_true rfl⟩ ⟨Nat.le_of_ble_eq_true rfl, Nat.le_of_ble_eq_true rfl⟩ (Nat.le_of_ble_eq_true rfl) (fun H locs hM hS => ?_)
  exact k_zret hc hr dX6_isStake_13 hM hS bI_n (Nat.le_of_ble_eq_true rfl) (Nat.le_of_ble_eq_true rfl) (by rfl)
set_option maxHeartbeats 4000000 in
set_option maxRecDepth 100000 in
theorem c_X6_isPost (l : Launch) (hlf : l.stackTraces = false) (g : GC) (M : HM) (q : Nat) (md : FL) (v : Int32) (hW : MdAt g M q md) : KM g l yX6_isPost cX6_isPost 2 (some .boolean) 2 0 0 [.ref q, .int v] M (.inl (some (.int (bI (inB v 0 (md 0 3 - 1)))), M)) := by
  refine k_meth hlf (by decide) (Nat.le_of_ble_eq_true rfl) fun p e s m below meth c ls hc hr hnx hM hS hl => ?_
  have hc : Cx g p l s m [.ref q, .int v].toArray meth c cX6_isPost 2 RX6 := hc
  have hx := hc.1
  have hb := hc.2.1
  have hl : lv_has ls 2 [(0, .ref q), (1, .int v)] := hl
  refine lv_iload_n hx hb dX6_isPost_0 rfl (lv_at hl 1 rfl) ?_
  refine lv_iconst (v := 0) hx hb dX6_isPost_1 (by decide) ?_
  refine lv_aload_n hx hb dX6_isPost_2 rfl (lv_at hl 0 rfl) ?_
  refine gt_X6_9 hc dX6_isPost_3 hM hW.o rfl ?_
  refine lv_iconst (v := 3) hx hb dX6_isPost_6 (by decide) ?_
  refine k_ialdN hc hM (n := 81) (hW.ar 0 (by decide) (by decide) rfl rfl) (X := 3) rfl (by omega) (by decide) dX6_isPost_7 ?_
  refine lv_iconst (v := 1) hx hb dX6_isPost_8 (by decide) ?_
  refine lv_isub hx hb dX6_isPost_9 ?_
  refine k_S1 hc [.int v, .int 0, .int (((md 0) 3) - 1)] cw_X6_64 dX6_isPost_10 (c_X6_in l hlf g _ v 0 (((md 0) 3) - 1)) hM hS hl.1 rfl rfl ⟨Nat.le_of_ble_eq_true rfl, Nat.le_of_ble_eq_true rfl⟩ ⟨Nat.le_of_ble_eq_true rfl, Nat.le_of_ble_eq_true rfl⟩ (Nat.le_of_ble_eq_true rfl) (fun H locs hM hS => ?_)
  exact k_zret hc hr dX6_isPost_13 hM hS bI_n (Nat.le_of_ble_eq_true rfl) (Nat.le_of_ble_eq_true rfl) (by rfl)
set_option maxHeartbeats 4000000 in
set_option maxRecDepth 100000 in
theorem c_X6_isSheet (l : Launch) (hlf : l.stackTraces = false) (g : GC) (M : HM) (q : Nat) (md : FL) (v : Int32) (hW : MdAt g M q md) : KM g l yX6_isSheet cX6_isSheet 2 (some .boolean) 2 0 0 [.ref q, .int v] M (.inl (some (.int (bI (inB v 0 (md 0 4 - 1)))), M)) := by
  refine k_meth hlf (by decide) (Nat.le_of_ble_eq_true rfl) fun p e s m below meth c ls hc hr hnx hM hS hl => ?_
  have hc : Cx g p l s m [.ref q, .int v].toArray meth c cX6_isSheet 2 RX6 := hc
  have hx := hc.1
  have hb := hc.2.1
  have hl : lv_has ls 2 [(0, .ref q), (1, .int v)] := hl
  refine lv_iload_n hx hb dX6_isSheet_0 rfl (lv_at hl 1 rfl) ?_
  refine lv_iconst (v := 0) hx hb dX6_isSheet_1 (by decide) ?_
  refine lv_aload_n hx hb dX6_isSheet_2 rfl (lv_at hl 0 rfl) ?_
  refine gt_X6_9 hc dX6_isSheet_3 hM hW.o rfl ?_
  refine lv_iconst (v := 4) hx hb dX6_isSheet_6 (by decide) ?_
  refine k_ialdN hc hM (n := 81) (hW.ar 0 (by decide) (by decide) rfl rfl) (X := 4) rfl (by omega) (by decide) dX6_isSheet_7 ?_
  refine lv_iconst (v := 1) hx hb dX6_isSheet_8 (by decide) ?_
  refine lv_isub hx hb dX6_isSheet_9 ?_
  refine k_S1 hc [.int v, .int 0, .int (((md 0) 4) - 1)] cw_X6_64 dX6_isSheet_10 (c_X6_in l hlf g _ v 0 (((md 0) 4) - 1)) hM hS hl.1 rfl rfl ⟨Nat.le_of_ble_eq_true rfl, Nat.le_of_ble_eq_true rfl⟩ ⟨Nat.le_of_ble_eq_true rfl, Nat.le_of_ble_eq_true rfl⟩ (Nat.le_of_ble_eq_true rfl) (fun H locs hM hS => ?_)
  exact k_zret hc hr dX6_isSheet_13 hM hS bI_n (Nat.le_of_ble_eq_true rfl) (Nat.le_of_ble_eq_true rfl) (by rfl)
set_option maxHeartbeats 4000000 in
set_option maxRecDepth 100000 in
theorem c_X6_isCamel (l : Launch) (hlf : l.stackTraces = false) (g : GC) (M : HM) (q : Nat) (md : FL) (v : Int32) (hW : MdAt g M q md) : KM g l yX6_isCamel cX6_isCamel 2 (some .boolean) 2 0 0 [.ref q, .int v] M (.inl (some (.int (bI (inB v 0 (md 0 5 - 1)))), M)) := by
  refine k_meth hlf (by decide) (Nat.le_of_ble_eq_true rfl) fun p e s m below meth c ls hc hr hnx hM hS hl => ?_
  have hc : Cx g p l s m [.ref q, .int v].toArray meth c cX6_isCamel 2 RX6 := hc
  have hx := hc.1
  have hb := hc.2.1
  have hl : lv_has ls 2 [(0, .ref q), (1, .int v)] := hl
  refine lv_iload_n hx hb dX6_isCamel_0 rfl (lv_at hl 1 rfl) ?_
  refine lv_iconst (v := 0) hx hb dX6_isCamel_1 (by decide) ?_
  refine lv_aload_n hx hb dX6_isCamel_2 rfl (lv_at hl 0 rfl) ?_
  refine gt_X6_9 hc dX6_isCamel_3 hM hW.o rfl ?_
  refine lv_iconst (v := 5) hx hb dX6_isCamel_6 (by decide) ?_
  refine k_ialdN hc hM (n := 81) (hW.ar 0 (by decide) (by decide) rfl rfl) (X := 5) rfl (by omega) (by decide) dX6_isCamel_7 ?_
  refine lv_iconst (v := 1) hx hb dX6_isCamel_8 (by decide) ?_
  refine lv_isub hx hb dX6_isCamel_9 ?_
  refine k_S1 hc [.int v, .int 0, .int (((md 0) 5) - 1)] cw_X6_64 dX6_isCamel_10 (c_X6_in l hlf g _ v 0 (((md 0) 5) - 1)) hM hS hl.1 rfl rfl ⟨Nat.le_of_ble_eq_true rfl, Nat.le_of_ble_eq_true rfl⟩ ⟨Nat.le_of_ble_eq_true rfl, Nat.le_of_ble_eq_true rfl⟩ (Nat.le_of_ble_eq_true rfl) (fun H locs hM hS => ?_)
  exact k_zret hc hr dX6_isCamel_13 hM hS bI_n (Nat.le_of_ble_eq_true rfl) (Nat.le_of_ble_eq_true rfl) (by rfl)
set_option maxHeartbeats 4000000 in
set_option maxRecDepth 100000 in
theorem c_X6_ofPost (l : Launch) (hlf : l.stackTraces = false) (g : GC) (M : HM) (q : Nat) (md : FL) (v : Int32) (w : Int32) (hW : MdAt g M q md) (hp : okP v) (hw : okB w) : KM g l yX6_ofPost cX6_ofPost 3 (some .int) 1 0 0 [.ref q, .int v, .int w] M (.inl (some (.int (mP (md 0) v w)), M)) := by
  refine k_meth hlf (by decide) (Nat.le_of_ble_eq_true rfl) fun p e s m below meth c ls hc hr hnx hM hS hl => ?_
  have hc : Cx g p l s m [.ref q, .int v, .int w].toArray meth c cX6_ofPost 3 RX6 := hc
  have hx := hc.1
  have hb := hc.2.1
  have hl : lv_has ls 3 [(0, .ref q), (1, .int v), (2, .int w)] := hl
  refine lv_aload_n hx hb dX6_ofPost_0 rfl (lv_at hl 0 rfl) ?_
  refine gt_X6_9 hc dX6_ofPost_1 hM hW.o rfl ?_
  refine lv_bipush (v := 19) hx hb dX6_ofPost_4 (by decide) ?_
  refine lv_iconst (v := 2) hx hb dX6_ofPost_6 (by decide) ?_
  refine lv_iload_n hx hb dX6_ofPost_7 rfl (lv_at hl 1 rfl) ?_
  refine lv_imul hx hb dX6_ofPost_8 ?_
  refine lv_iadd hx hb dX6_ofPost_9 ?_
  refine lv_iload_n hx hb dX6_ofPost_10 rfl (lv_at hl 2 rfl) ?_
  refine lv_iadd hx hb dX6_ofPost_11 ?_
  refine k_iald hc hM (hW.ar 0 (by decide) (by decide) rfl rfl) (inP (by assumption) (by first | assumption | decide)) dX6_ofPost_12 ?_
  exact k_iret hc hr dX6_ofPost_13 hM hS (Nat.le_of_ble_eq_true rfl) (Nat.le_of_ble_eq_true rfl) (by rfl)
set_option maxHeartbeats 4000000 in
set_option maxRecDepth 100000 in
theorem c_X6_ofCamel (l : Launch) (hlf : l.stackTraces = false) (g : GC) (M : HM) (q : Nat) (md : FL) (v : Int32) (w : Int32) (hW : MdAt g M q md) (hp : okC v) (hw : okW w) : KM g l yX6_ofCamel cX6_ofCamel 3 (some .int) 1 0 0 [.ref q, .int v, .int w] M (.inl (some (.int (mC (md 0) v w)), M)) := by
  refine k_meth hlf (by decide) (Nat.le_of_ble_eq_true rfl) fun p e s m below meth c ls hc hr hnx hM hS hl => ?_
  have hc : Cx g p l s m [.ref q, .int v, .int w].toArray meth c cX6_ofCamel 3 RX6 := hc
  have hx := hc.1
  have hb := hc.2.1
  have hl : lv_has ls 3 [(0, .ref q), (1, .int v), (2, .int w)] := hl
  refine lv_aload_n hx hb dX6_ofCamel_0 rfl (lv_at hl 0 rfl) ?_
  refine gt_X6_9 hc dX6_ofCamel_1 hM hW.o rfl ?_
  refine lv_bipush (v := 57) hx hb dX6_ofCamel_4 (by decide) ?_
  refine lv_iconst (v := 4) hx hb dX6_ofCamel_6 (by decide) ?_
  refine lv_iload_n hx hb dX6_ofCamel_7 rfl (lv_at hl 1 rfl) ?_
  refine lv_imul hx hb dX6_ofCamel_8 ?_
  refine lv_iadd hx hb dX6_ofCamel_9 ?_
  refine lv_iload_n hx hb dX6_ofCamel_10 rfl (lv_at hl 2 rfl) ?_
  refine lv_iadd hx hb dX6_ofCamel_11 ?_
  refine k_iald hc hM (hW.ar 0 (by decide) (by decide) rfl rfl) (inC (by assumption) (by first | assumption | decide)) dX6_ofCamel_12 ?_
  exact k_iret hc hr dX6_ofCamel_13 hM hS (Nat.le_of_ble_eq_true rfl) (Nat.le_of_ble_eq_true rfl) (by rfl)
set_option maxHeartbeats 4000000 in
set_option maxRecDepth 100000 in
theorem c_X6_setsCamel (l : Launch) (hlf : l.stackTraces = false) (g : GC) (M : HM) (q : Nat) (md : FL) (v : Int32) (w : Int32) (u : Int32) (hW : MdAt g M q md) (hp : okC v) (hw : okW w) : KM g l yX6_setsCamel cX6_setsCamel 4 none 1 0 0 [.ref q, .int v, .int w, .int u] M (.inl (none, (putD g M q (up1 md 0 (sC (md 0) v w u))))) := by
  refine k_meth hlf (by decide) (Nat.le_of_ble_eq_true rfl) fun p e s m below meth c ls hc hr hnx hM hS hl => ?_
  have hc : Cx g p l s m [.ref q, .int v, .int w, .int u].toArray meth c cX6_setsCamel 4 RX6 := hc
  have hx := hc.1
  have hb := hc.2.1
  have hl : lv_has ls 4 [(0, .ref q), (1, .int v), (2, .int w), (3, .int u)] := hl
  refine lv_aload_n hx hb dX6_setsCamel_0 rfl (lv_at hl 0 rfl) ?_
  refine gt_X6_9 hc dX6_setsCamel_1 hM hW.o rfl ?_
  refine lv_bipush (v := 57) hx hb dX6_setsCamel_4 (by decide) ?_
  refine lv_iconst (v := 4) hx hb dX6_setsCamel_6 (by decide) ?_
  refine lv_iload_n hx hb dX6_setsCamel_7 rfl (lv_at hl 1 rfl) ?_
  refine lv_imul hx hb dX6_setsCamel_8 ?_
  refine lv_iadd hx hb dX6_setsCamel_9 ?_
  refine lv_iload_n hx hb dX6_setsCamel_10 rfl (lv_at hl 2 rfl) ?_
  refine lv_iadd hx hb dX6_setsCamel_11 ?_
  refine lv_iload_n hx hb dX6_setsCamel_12 rfl (lv_at hl 3 rfl) ?_
  refine k_iast hc hM hS (hW.ar 0 (by decide) (by decide) rfl rfl) (inC (by assumption) (by first | assumption | decide)) dX6_setsCamel_13 (fun H locs hM hS => ?_)
  have hM := hR.eq hM (putD_ar hW 0 (by decide) (by decide) rfl rfl)
  have hW := MdAt.put (g := g) (M := M) (m := q) (md := (up1 md 0 (upd (md 0) (((57 + (4 * v)) + w).toNatClampNeg) u)))
  exact k_vret hc hr dX6_setsCamel_14 hM hS (Nat.le_of_ble_eq_true rfl) (Nat.le_of_ble_eq_true rfl) (by rfl)
set_option maxHeartbeats 4000000 in
set_option maxRecDepth 100000 in
theorem c_X6_isLost (l : Launch) (hlf : l.stackTraces = false) (g : GC) (M : HM) (q : Nat) (md : FL) (v : Int32) (hW : MdAt g M q md) (hp : okC v) : KM g l yX6_isLost cX6_isLost 2 (some .boolean) 2 0 0 [.ref q, .int v] M (.inl (some (.int (bI (lostM (md 0) v))), M)) := by
  refine k_meth hlf (by decide) (Nat.le_of_ble_eq_true rfl) fun p e s m below meth c ls hc hr hnx hM hS hl => ?_
  have hc : Cx g p l s m [.ref q, .int v].toArray meth c cX6_isLost 2 RX6 := hc
  have hx := hc.1
  have hb := hc.2.1
  have hl : lv_has ls 2 [(0, .ref q), (1, .int v)] := hl
  refine lv_aload_n hx hb dX6_isLost_0 rfl (lv_at hl 0 rfl) ?_
  refine lv_iload_n hx hb dX6_isLost_1 rfl (lv_at hl 1 rfl) ?_
  refine lv_iconst (v := 1) hx hb dX6_isLost_2 (by decide) ?_
  refine k_V1 hc [.int v, .int 1] cw_X6_68 rfl dX6_isLost_3 (c_X6_ofCamel l hlf g _ q md v 1 hW (by first | assumption | decide) (by first | assumption | decide)) hW.o hM hS hl.1 rfl rfl ⟨Nat.le_of_ble_eq_true rfl, Nat.le_of_ble_eq_true rfl⟩ ⟨Nat.le_of_ble_eq_true rfl, Nat.le_of_ble_eq_true rfl⟩ (Nat.le_of_ble_eq_true rfl) (fun H locs hM hS => ?_)
  refine lv_bipush (v := 20) hx hb dX6_isLost_6 (by decide) ?_
  refine lv_icmp_ne (tgt := 15) hx hb dX6_isLost_8 (by decide) (fun c_8 => ?_) (fun c_8 => ?_)
  · skip
    refine lv_iconst (v := 0) hx hb dX6_isLost_15 (by decide) ?_
    exact k_zret hc hr dX6_isLost_16 hM hS (by first | rfl | exact bI_n) (Nat.le_of_ble_eq_true rfl) (Nat.le_of_ble_eq_true rfl) (by first | rfl | (simp only [bI, eq_false c_8, bM_l, bM_r, rsM_l, rsM_r, seV_l, seV_r, snE_l, snE_r, up1_at, up1_up1, up2_up2, not_false_eq_true, not_true_eq_false, and_true, true_and, and_false, false_and, and_self, ↓reduceIte, or_true, true_or, or_self, or_false, false_or]; done) | (simp only [bI, eq_false c_8, bM_l, bM_r, rsM_l, rsM_r, seV_l, seV_r, snE_l, snE_r, up1_at, up1_up1, up2_up2, not_false_eq_true, not_true_eq_false, and_true, true_and, and_false, false_and, and_self, ↓reduceIte, or_true, true_or, or_self, or_false, false_or]; rfl))
  · skip
    refine lv_iconst (v := 1) hx hb dX6_isLost_11 (by decide) ?_
    refine lv_goto (tgt := 16) hx hb dX6_isLost_12 (by decide) ?_
    exact k_zret hc hr dX6_isLost_16 hM hS (by first | rfl | exact bI_n) (Nat.le_of_ble_eq_true rfl) (Nat.le_of_ble_eq_true rfl) (by first | rfl | (simp only [bI, eq_true c_8, bM_l, bM_r, rsM_l, rsM_r, seV_l, seV_r, snE_l, snE_r, up1_at, up1_up1, up2_up2, not_false_eq_true, not_true_eq_false, and_true, true_and, and_false, false_and, and_self, ↓reduceIte, or_true, true_or, or_self, or_false, false_or]; done) | (simp only [bI, eq_true c_8, bM_l, bM_r, rsM_l, rsM_r, seV_l, seV_r, snE_l, snE_r, up1_at, up1_up1, up2_up2, not_false_eq_true, not_true_eq_false, and_true, true_and, and_false, false_and, and_self, ↓reduceIte, or_true, true_or, or_self, or_false, false_or]; rfl))
set_option maxHeartbeats 4000000 in
set_option maxRecDepth 100000 in
theorem c_X6_heatBehind (l : Launch) (hlf : l.stackTraces = false) (g : GC) (M : HM) (q : Nat) (md : FL) (v : Int32) (hW : MdAt g M q md) : KM g l yX6_heatBehind cX6_heatBehind 3 (some .int) 5 0 0 [.ref q, .int v] M (.inl (some (.int (mHb (md 0) v)), M)) := by
  refine k_meth hlf (by decide) (Nat.le_of_ble_eq_true rfl) fun p e s m below meth c ls hc hr hnx hM hS hl => ?_
  have hc : Cx g p l s m [.ref q, .int v].toArray meth c cX6_heatBehind 3 RX6 := hc
  have hx := hc.1
  have hb := hc.2.1
  have hl : lv_has ls 3 [(0, .ref q), (1, .int v)] := hl
  refine lv_aload_n hx hb dX6_heatBehind_0 rfl (lv_at hl 0 rfl) ?_
  refine gt_X6_9 hc dX6_heatBehind_1 hM hW.o rfl ?_
  refine lv_iconst (v := 0) hx hb dX6_heatBehind_4 (by decide) ?_
  refine k_ialdN hc hM (n := 81) (hW.ar 0 (by decide) (by decide) rfl rfl) (X := 0) rfl (by omega) (by decide) dX6_heatBehind_5 ?_
  refine lv_iload_n hx hb dX6_heatBehind_6 rfl (lv_at hl 1 rfl) ?_
  refine lv_iadd hx hb dX6_heatBehind_7 ?_
  refine lv_bipush (v := 24) hx hb dX6_heatBehind_8 (by decide) ?_
  refine lv_irem hx hb dX6_heatBehind_10 (by decide) ?_
  refine lv_istore_n (lv' := [(2, .int ((((md 0) 0) + v) - (((md 0) 0) + v) / 24 * 24)), (0, .ref q), (1, .int v)]) hx hb dX6_heatBehind_11 rfl hl (by decide) rfl (fun ls hl => ?_)
  refine lv_aload_n hx hb dX6_heatBehind_12 rfl (lv_at hl 1 rfl) ?_
  refine gt_X6_9 hc dX6_heatBehind_13 hM hW.o rfl ?_
  refine lv_iconst (v := 1) hx hb dX6_heatBehind_16 (by decide) ?_
  refine k_ialdN hc hM (n := 81) (hW.ar 0 (by decide) (by decide) rfl rfl) (X := 1) rfl (by omega) (by decide) dX6_heatBehind_17 ?_
  refine lv_iload_n hx hb dX6_heatBehind_18 rfl (lv_at hl 0 rfl) ?_
  refine lv_bipush (v := 24) hx hb dX6_heatBehind_19 (by decide) ?_
  refine lv_iload_n hx hb dX6_heatBehind_21 rfl (lv_at hl 0 rfl) ?_
  refine lv_isub hx hb dX6_heatBehind_22 ?_
  refine k_min hc q_X6_72 dX6_heatBehind_23 hl.1 ⟨Nat.le_of_ble_eq_true rfl, Nat.le_of_ble_eq_true rfl, Nat.le_of_ble_eq_true rfl, Nat.le_of_ble_eq_true rfl⟩ ?_
  refine lv_imul hx hb dX6_heatBehind_26 ?_
  refine lv_bipush (v := 6) hx hb dX6_heatBehind_27 (by decide) ?_
  refine lv_idiv hx hb dX6_heatBehind_29 (by decide) ?_
  exact k_iret hc hr dX6_heatBehind_30 hM hS (Nat.le_of_ble_eq_true rfl) (Nat.le_of_ble_eq_true rfl) (by rfl)
set_option maxHeartbeats 4000000 in
set_option maxRecDepth 100000 in
theorem c_X6_far (l : Launch) (hlf : l.stackTraces = false) (g : GC) (M : HM) (q : Nat) (md : FL) (v : Int32) (w : Int32) (hW : MdAt g M q md) (hs : okS v) (hp : okP w) : KM g l yX6_far cX6_far 3 (some .int) 5 0 0 [.ref q, .int v, .int w] M (.inl (some (.int (farM (md 0) v w)), M)) := by
  refine k_meth hlf (by decide) (Nat.le_of_ble_eq_true rfl) fun p e s m below meth c ls hc hr hnx hM hS hl => ?_
  have hc : Cx g p l s m [.ref q, .int v, .int w].toArray meth c cX6_far 3 RX6 := hc
  have hx := hc.1
  have hb := hc.2.1
  have hl : lv_has ls 3 [(0, .ref q), (1, .int v), (2, .int w)] := hl
  refine lv_aload_n hx hb dX6_far_0 rfl (lv_at hl 0 rfl) ?_
  refine gt_X6_9 hc dX6_far_1 hM hW.o rfl ?_
  refine lv_bipush (v := 9) hx hb dX6_far_4 (by decide) ?_
  refine lv_iload_n hx hb dX6_far_6 rfl (lv_at hl 1 rfl) ?_
  refine lv_iadd hx hb dX6_far_7 ?_
  refine k_iald hc hM (hW.ar 0 (by decide) (by decide) rfl rfl) (inS (by assumption)) dX6_far_8 ?_
  refine lv_aload_n hx hb dX6_far_9 rfl (lv_at hl 0 rfl) ?_
  refine lv_iload_n hx hb dX6_far_10 rfl (lv_at hl 2 rfl) ?_
  refine lv_iconst (v := 0) hx hb dX6_far_11 (by decide) ?_
  refine k_V1 hc [.int w, .int 0] cw_X6_91 rfl dX6_far_12 (c_X6_ofPost l hlf g _ q md w 0 hW (by first | assumption | decide) (by first | assumption | decide)) hW.o hM hS hl.1 rfl rfl ⟨Nat.le_of_ble_eq_true rfl, Nat.le_of_ble_eq_true rfl⟩ ⟨Nat.le_of_ble_eq_true rfl, Nat.le_of_ble_eq_true rfl⟩ (Nat.le_of_ble_eq_true rfl) (fun H locs hM hS => ?_)
  refine lv_isub hx hb dX6_far_15 ?_
  refine k_abs hc q_X6_94 dX6_far_16 hl.1 ⟨Nat.le_of_ble_eq_true rfl, Nat.le_of_ble_eq_true rfl, Nat.le_of_ble_eq_true rfl, Nat.le_of_ble_eq_true rfl⟩ ?_
  exact k_iret hc hr dX6_far_19 hM hS (Nat.le_of_ble_eq_true rfl) (Nat.le_of_ble_eq_true rfl) (by rfl)
set_option maxHeartbeats 4000000 in
set_option maxRecDepth 100000 in
theorem c_X6_shimmersBy (l : Launch) (hlf : l.stackTraces = false) (g : GC) (M : HM) (q : Nat) (md : FL) (v : Int32) (w : Int32) (u : Int32) (hW : MdAt g M q md) (hs : okS v) (hp : okP w) : KM g l yX6_shimmersBy cX6_shimmersBy 4 (some .boolean) 6 0 0 [.ref q, .int v, .int w, .int u] M (.inl (some (.int (bI (shM (md 0) v w u))), M)) := by
  refine k_meth hlf (by decide) (Nat.le_of_ble_eq_true rfl) fun p e s m below meth c ls hc hr hnx hM hS hl => ?_
  have hc : Cx g p l s m [.ref q, .int v, .int w, .int u].toArray meth c cX6_shimmersBy 4 RX6 := hc
  have hx := hc.1
  have hb := hc.2.1
  have hl : lv_has ls 4 [(0, .ref q), (1, .int v), (2, .int w), (3, .int u)] := hl
  refine lv_iload_n hx hb dX6_shimmersBy_0 rfl (lv_at hl 3 rfl) ?_
  refine lv_aload_n hx hb dX6_shimmersBy_1 rfl (lv_at hl 0 rfl) ?_
  refine lv_iload_n hx hb dX6_shimmersBy_2 rfl (lv_at hl 1 rfl) ?_
  refine lv_iload_n hx hb dX6_shimmersBy_3 rfl (lv_at hl 2 rfl) ?_
  refine k_V1 hc [.int v, .int w] cw_X6_97 rfl dX6_shimmersBy_4 (c_X6_far l hlf g _ q md v w hW (by first | assumption | decide) (by first | assumption | decide)) hW.o hM hS hl.1 rfl rfl ⟨Nat.le_of_ble_eq_true rfl, Nat.le_of_ble_eq_true rfl⟩ ⟨Nat.le_of_ble_eq_true rfl, Nat.le_of_ble_eq_true rfl⟩ (Nat.le_of_ble_eq_true rfl) (fun H locs hM hS => ?_)
  refine lv_imul hx hb dX6_shimmersBy_7 ?_
  refine lv_bipush (v := 10) hx hb dX6_shimmersBy_8 (by decide) ?_
  refine lv_idiv hx hb dX6_shimmersBy_10 (by decide) ?_
  refine lv_iconst (v := 2) hx hb dX6_shimmersBy_11 (by decide) ?_
  refine lv_aload_n hx hb dX6_shimmersBy_12 rfl (lv_at hl 0 rfl) ?_
  refine lv_iload_n hx hb dX6_shimmersBy_13 rfl (lv_at hl 2 rfl) ?_
  refine lv_iconst (v := 1) hx hb dX6_shimmersBy_14 (by decide) ?_
  refine k_V1 hc [.int w, .int 1] cw_X6_91 rfl dX6_shimmersBy_15 (c_X6_ofPost l hlf g _ q md w 1 hW (by first | assumption | decide) (by first | assumption | decide)) hW.o hM hS hl.1 rfl rfl ⟨Nat.le_of_ble_eq_true rfl, Nat.le_of_ble_eq_true rfl⟩ ⟨Nat.le_of_ble_eq_true rfl, Nat.le_of_ble_eq_true rfl⟩ (Nat.le_of_ble_eq_true rfl) (fun H locs hM hS => ?_)
  refine lv_imul hx hb dX6_shimmersBy_18 ?_
  refine lv_icmp_le (tgt := 26) hx hb dX6_shimmersBy_19 (by decide) (fun c_19 => ?_) (fun c_19 => ?_)
  · skip
    refine lv_iconst (v := 0) hx hb dX6_shimmersBy_26 (by decide) ?_
    exact k_zret hc hr dX6_shimmersBy_27 hM hS (by first | rfl | exact bI_n) (Nat.le_of_ble_eq_true rfl) (Nat.le_of_ble_eq_true rfl) (by first | rw [bI_f (show ¬ shM (md 0) v w u from fun h => h c_19)] | rw [bI_t (show shM (md 0) v w u from c_19)])
  · skip
    refine lv_iconst (v := 1) hx hb dX6_shimmersBy_22 (by decide) ?_
    refine lv_goto (tgt := 27) hx hb dX6_shimmersBy_23 (by decide) ?_
    exact k_zret hc hr dX6_shimmersBy_27 hM hS (by first | rfl | exact bI_n) (Nat.le_of_ble_eq_true rfl) (Nat.le_of_ble_eq_true rfl) (by first | rw [bI_f (show ¬ shM (md 0) v w u from fun h => h c_19)] | rw [bI_t (show shM (md 0) v w u from c_19)])
set_option maxHeartbeats 4000000 in
set_option maxRecDepth 100000 in
theorem c_X6_seemsFrom (l : Launch) (hlf : l.stackTraces = false) (g : GC) (M : HM) (q : Nat) (md : FL) (v : Int32) (w : Int32) (hW : MdAt g M q md) (hs : okS v) (hp : okP w) : KM g l yX6_seemsFrom cX6_seemsFrom 8 (some .int) 6 0 0 [.ref q, .int v, .int w] M (.inl (some (.int (seM (md 0) v w)), M)) := by
  refine k_meth hlf (by decide) (Nat.le_of_ble_eq_true rfl) fun p e s m below meth c ls hc hr hnx hM hS hl => ?_
  have hc : Cx g p l s m [.ref q, .int v, .int w].toArray meth c cX6_seemsFrom 8 RX6 := hc
  have hx := hc.1
  have hb := hc.2.1
  have hl : lv_has ls 8 [(0, .ref q), (1, .int v), (2, .int w)] := hl
  refine lv_aload_n hx hb dX6_seemsFrom_0 rfl (lv_at hl 0 rfl) ?_
  refine gt_X6_9 hc dX6_seemsFrom_1 hM hW.o rfl ?_
  refine lv_bipush (v := 9) hx hb dX6_seemsFrom_4 (by decide) ?_
  refine lv_iload_n hx hb dX6_seemsFrom_6 rfl (lv_at hl 1 rfl) ?_
  refine lv_iadd hx hb dX6_seemsFrom_7 ?_
  refine k_iald hc hM (hW.ar 0 (by decide) (by decide) rfl rfl) (inS (by assumption)) dX6_seemsFrom_8 ?_
  refine lv_istore_n (lv' := [(3, .int ((md 0) (9 + v).toNatClampNeg)), (0, .ref q), (1, .int v), (2, .int w)]) hx hb dX6_seemsFrom_9 rfl hl (by decide) rfl (fun ls hl => ?_)
  refine lv_aload_n hx hb dX6_seemsFrom_10 rfl (lv_at hl 1 rfl) ?_
  refine lv_iload_n hx hb dX6_seemsFrom_11 rfl (lv_at hl 3 rfl) ?_
  refine lv_iconst (v := 0) hx hb dX6_seemsFrom_12 (by decide) ?_
  refine k_V1 hc [.int w, .int 0] cw_X6_91 rfl dX6_seemsFrom_13 (c_X6_ofPost l hlf g _ q md w 0 hW (by first | assumption | decide) (by first | assumption | decide)) hW.o hM hS hl.1 rfl rfl ⟨Nat.le_of_ble_eq_true rfl, Nat.le_of_ble_eq_true rfl⟩ ⟨Nat.le_of_ble_eq_true rfl, Nat.le_of_ble_eq_true rfl⟩ (Nat.le_of_ble_eq_true rfl) (fun H locs hM hS => ?_)
  refine lv_istore (lv' := [(4, .int (mP (md 0) w 0)), (3, .int ((md 0) (9 + v).toNatClampNeg)), (0, .ref q), (1, .int v), (2, .int w)]) hx hb dX6_seemsFrom_16 hl (by decide) rfl (fun ls hl => ?_)
  refine lv_aload_n hx hb dX6_seemsFrom_18 rfl (lv_at hl 2 rfl) ?_
  refine lv_iconst (v := 0) hx hb dX6_seemsFrom_19 (by decide) ?_
  refine k_V1 hc [.int 0] cw_X6_88 rfl dX6_seemsFrom_20 (c_X6_heatBehind l hlf g _ q md 0 hW) hW.o hM hS hl.1 rfl rfl ⟨Nat.le_of_ble_eq_true rfl, Nat.le_of_ble_eq_true rfl⟩ ⟨Nat.le_of_ble_eq_true rfl, Nat.le_of_ble_eq_true rfl⟩ (Nat.le_of_ble_eq_true rfl) (fun H locs hM hS => ?_)
  refine lv_aload_n hx hb dX6_seemsFrom_23 rfl (lv_at hl 2 rfl) ?_
  refine lv_iload_n hx hb dX6_seemsFrom_24 rfl (lv_at hl 3 rfl) ?_
  refine lv_iload_n hx hb dX6_seemsFrom_25 rfl (lv_at hl 4 rfl) ?_
  refine k_V1 hc [.int v, .int w] cw_X6_97 rfl dX6_seemsFrom_26 (c_X6_far l hlf g _ q md v w hW (by first | assumption | decide) (by first | assumption | decide)) hW.o hM hS hl.1 rfl rfl ⟨Nat.le_of_ble_eq_true rfl, Nat.le_of_ble_eq_true rfl⟩ ⟨Nat.le_of_ble_eq_true rfl, Nat.le_of_ble_eq_true rfl⟩ (Nat.le_of_ble_eq_true rfl) (fun H locs hM hS => ?_)
  refine lv_imul hx hb dX6_seemsFrom_29 ?_
  refine lv_bipush (v := 50) hx hb dX6_seemsFrom_30 (by decide) ?_
  refine lv_idiv hx hb dX6_seemsFrom_32 (by decide) ?_
  refine lv_istore (lv' := [(5, .int (((mHb (md 0) 0) * (farM (md 0) v w)) / 50)), (4, .int (mP (md 0) w 0)), (3, .int ((md 0) (9 + v).toNatClampNeg)), (0, .ref q), (1, .int v), (2, .int w)]) hx hb dX6_seemsFrom_33 hl (by decide) rfl (fun ls hl => ?_)
  refine lv_aload_n hx hb dX6_seemsFrom_35 rfl (lv_at hl 3 rfl) ?_
  refine gt_X6_9 hc dX6_seemsFrom_36 hM hW.o rfl ?_
  refine lv_iconst (v := 0) hx hb dX6_seemsFrom_39 (by decide) ?_
  refine k_ialdN hc hM (n := 81) (hW.ar 0 (by decide) (by decide) rfl rfl) (X := 0) rfl (by omega) (by decide) dX6_seemsFrom_40 ?_
  refine lv_bipush (v := 24) hx hb dX6_seemsFrom_41 (by decide) ?_
  refine lv_irem hx hb dX6_seemsFrom_43 (by decide) ?_
  refine lv_bipush (v := 12) hx hb dX6_seemsFrom_44 (by decide) ?_
  refine lv_icmp_lt (tgt := 53) hx hb dX6_seemsFrom_46 (by decide) (fun c_46 => ?_) (fun c_46 => ?_)
  · skip
    refine lv_iconst (v := 0) hx hb dX6_seemsFrom_53 (by decide) ?_
    refine lv_istore (lv' := [(6, .int 0), (5, .int (((mHb (md 0) 0) * (farM (md 0) v w)) / 50)), (4, .int (mP (md 0) w 0)), (3, .int ((md 0) (9 + v).toNatClampNeg)), (0, .ref q), (1, .int v), (2, .int w)]) hx hb dX6_seemsFrom_54 hl (by decide) rfl (fun ls hl => ?_)
    refine lv_iload_n hx hb dX6_seemsFrom_56 rfl (lv_at hl 3 rfl) ?_
    refine lv_iload hx hb dX6_seemsFrom_57 (lv_at hl 2 rfl) ?_
    refine lv_icmp_le (tgt := 66) hx hb dX6_seemsFrom_59 (by decide) (fun c_59 => ?_) (fun c_59 => ?_)
    · skip
      refine lv_iconst (v := 0) hx hb dX6_seemsFrom_66 (by decide) ?_
      refine lv_iload hx hb dX6_seemsFrom_67 (lv_at hl 0 rfl) ?_
      refine lv_icmp_ne (tgt := 79) hx hb dX6_seemsFrom_69 (by decide) (fun c_69 => ?_) (fun c_69 => ?_)
      · skip
        exact absurd c_69 (by decide)
      · skip
        refine lv_iload_n hx hb dX6_seemsFrom_72 rfl (lv_at hl 3 rfl) ?_
        refine lv_iload hx hb dX6_seemsFrom_73 (lv_at hl 1 rfl) ?_
        refine lv_isub hx hb dX6_seemsFrom_75 ?_
        refine lv_goto (tgt := 83) hx hb dX6_seemsFrom_76 (by decide) ?_
        refine lv_istore (lv' := [(7, .int (((md 0) (9 + v).toNatClampNeg) - (((mHb (md 0) 0) * (farM (md 0) v w)) / 50))), (6, .int 0), (5, .int (((mHb (md 0) 0) * (farM (md 0) v w)) / 50)), (4, .int (mP (md 0) w 0)), (3, .int ((md 0) (9 + v).toNatClampNeg)), (0, .ref q), (1, .int v), (2, .int w)]) hx hb dX6_seemsFrom_83 hl (by decide) rfl (fun ls hl => ?_)
        refine lv_iload_n hx hb dX6_seemsFrom_85 rfl (lv_at hl 4 rfl) ?_
        refine lv_iload hx hb dX6_seemsFrom_86 (lv_at hl 3 rfl) ?_
        refine lv_icmp_ne (tgt := 95) hx hb dX6_seemsFrom_88 (by decide) (fun c_88 => ?_) (fun c_88 => ?_)
        · skip
          refine lv_iconst (v := 0) hx hb dX6_seemsFrom_95 (by decide) ?_
          refine lv_bipush (v := 99) hx hb dX6_seemsFrom_96 (by decide) ?_
          refine lv_iload hx hb dX6_seemsFrom_98 (lv_at hl 0 rfl) ?_
          refine k_min hc q_X6_72 dX6_seemsFrom_100 hl.1 ⟨Nat.le_of_ble_eq_true rfl, Nat.le_of_ble_eq_true rfl, Nat.le_of_ble_eq_true rfl, Nat.le_of_ble_eq_true rfl⟩ ?_
          refine k_max hc q_X6_100 dX6_seemsFrom_103 hl.1 ⟨Nat.le_of_ble_eq_true rfl, Nat.le_of_ble_eq_true rfl, Nat.le_of_ble_eq_true rfl, Nat.le_of_ble_eq_true rfl⟩ ?_
          exact k_iret hc hr dX6_seemsFrom_106 hM hS (Nat.le_of_ble_eq_true rfl) (Nat.le_of_ble_eq_true rfl) (by rw [seM, if_neg (show ¬ (mS (md 0) v = mP (md 0) w 0) from c_88), if_pos (show ofD (md 0 0) < 12 from c_46), if_pos (show mS (md 0) v ≤ mP (md 0) w 0 from c_59)])
        · skip
          refine lv_iload_n hx hb dX6_seemsFrom_91 rfl (lv_at hl 4 rfl) ?_
          refine lv_goto (tgt := 106) hx hb dX6_seemsFrom_92 (by decide) ?_
          exact k_iret hc hr dX6_seemsFrom_106 hM hS (Nat.le_of_ble_eq_true rfl) (Nat.le_of_ble_eq_true rfl) (by rw [seM, if_pos (show mS (md 0) v = mP (md 0) w 0 from c_88)])
    · skip
      refine lv_iconst (v := 1) hx hb dX6_seemsFrom_62 (by decide) ?_
      refine lv_goto (tgt := 67) hx hb dX6_seemsFrom_63 (by decide) ?_
      refine lv_iload hx hb dX6_seemsFrom_67 (lv_at hl 0 rfl) ?_
      refine lv_icmp_ne (tgt := 79) hx hb dX6_seemsFrom_69 (by decide) (fun c_69 => ?_) (fun c_69 => ?_)
      · skip
        refine lv_iload_n hx hb dX6_seemsFrom_79 rfl (lv_at hl 3 rfl) ?_
        refine lv_iload hx hb dX6_seemsFrom_80 (lv_at hl 1 rfl) ?_
        refine lv_iadd hx hb dX6_seemsFrom_82 ?_
        refine lv_istore (lv' := [(7, .int (((md 0) (9 + v).toNatClampNeg) + (((mHb (md 0) 0) * (farM (md 0) v w)) / 50))), (6, .int 0), (5, .int (((mHb (md 0) 0) * (farM (md 0) v w)) / 50)), (4, .int (mP (md 0) w 0)), (3, .int ((md 0) (9 + v).toNatClampNeg)), (0, .ref q), (1, .int v), (2, .int w)]) hx hb dX6_seemsFrom_83 hl (by decide) rfl (fun ls hl => ?_)
        refine lv_iload_n hx hb dX6_seemsFrom_85 rfl (lv_at hl 4 rfl) ?_
        refine lv_iload hx hb dX6_seemsFrom_86 (lv_at hl 3 rfl) ?_
        refine lv_icmp_ne (tgt := 95) hx hb dX6_seemsFrom_88 (by decide) (fun c_88 => ?_) (fun c_88 => ?_)
        · skip
          refine lv_iconst (v := 0) hx hb dX6_seemsFrom_95 (by decide) ?_
          refine lv_bipush (v := 99) hx hb dX6_seemsFrom_96 (by decide) ?_
          refine lv_iload hx hb dX6_seemsFrom_98 (lv_at hl 0 rfl) ?_
          refine k_min hc q_X6_72 dX6_seemsFrom_100 hl.1 ⟨Nat.le_of_ble_eq_true rfl, Nat.le_of_ble_eq_true rfl, Nat.le_of_ble_eq_true rfl, Nat.le_of_ble_eq_true rfl⟩ ?_
          refine k_max hc q_X6_100 dX6_seemsFrom_103 hl.1 ⟨Nat.le_of_ble_eq_true rfl, Nat.le_of_ble_eq_true rfl, Nat.le_of_ble_eq_true rfl, Nat.le_of_ble_eq_true rfl⟩ ?_
          exact k_iret hc hr dX6_seemsFrom_106 hM hS (Nat.le_of_ble_eq_true rfl) (Nat.le_of_ble_eq_true rfl) (by rw [seM, if_neg (show ¬ (mS (md 0) v = mP (md 0) w 0) from c_88), if_pos (show ofD (md 0 0) < 12 from c_46), if_neg (show ¬ (mS (md 0) v ≤ mP (md 0) w 0) from c_59)])
        · skip
          refine lv_iload_n hx hb dX6_seemsFrom_91 rfl (lv_at hl 4 rfl) ?_
          refine lv_goto (tgt := 106) hx hb dX6_seemsFrom_92 (by decide) ?_
          exact k_iret hc hr dX6_seemsFrom_106 hM hS (Nat.le_of_ble_eq_true rfl) (Nat.le_of_ble_eq_true rfl) (by rw [seM, if_pos (show mS (md 0) v = mP (md 0) w 0 from c_88)])
      · skip
        exact absurd c_69 (by decide)
  · skip
    refine lv_iconst (v := 1) hx hb dX6_seemsFrom_49 (by decide) ?_
    refine lv_goto (tgt := 54) hx hb dX6_seemsFrom_50 (by decide) ?_
    refine lv_istore (lv' := [(6, .int 1), (5, .int (((mHb (md 0) 0) * (farM (md 0) v w)) / 50)), (4, .int (mP (md 0) w 0)), (3, .int ((md 0) (9 + v).toNatClampNeg)), (0, .ref q), (1, .int v), (2, .int w)]) hx hb dX6_seemsFrom_54 hl (by decide) rfl (fun ls hl => ?_)
    refine lv_iload_n hx hb dX6_seemsFrom_56 rfl (lv_at hl 3 rfl) ?_
    refine lv_iload hx hb dX6_seemsFrom_57 (lv_at hl 2 rfl) ?_
    refine lv_icmp_le (tgt := 66) hx hb dX6_seemsFrom_59 (by decide) (fun c_59 => ?_) (fun c_59 => ?_)
    · skip
      refine lv_iconst (v := 0) hx hb dX6_seemsFrom_66 (by decide) ?_
      refine lv_iload hx hb dX6_seemsFrom_67 (lv_at hl 0 rfl) ?_
      refine lv_icmp_ne (tgt := 79) hx hb dX6_seemsFrom_69 (by decide) (fun c_69 => ?_) (fun c_69 => ?_)
      · skip
        refine lv_iload_n hx hb dX6_seemsFrom_79 rfl (lv_at hl 3 rfl) ?_
        refine lv_iload hx hb dX6_seemsFrom_80 (lv_at hl 1 rfl) ?_
        refine lv_iadd hx hb dX6_seemsFrom_82 ?_
        refine lv_istore (lv' := [(7, .int (((md 0) (9 + v).toNatClampNeg) + (((mHb (md 0) 0) * (farM (md 0) v w)) / 50))), (6, .int 1), (5, .int (((mHb (md 0) 0) * (farM (md 0) v w)) / 50)), (4, .int (mP (md 0) w 0)), (3, .int ((md 0) (9 + v).toNatClampNeg)), (0, .ref q), (1, .int v), (2, .int w)]) hx hb dX6_seemsFrom_83 hl (by decide) rfl (fun ls hl => ?_)
        refine lv_iload_n hx hb dX6_seemsFrom_85 rfl (lv_at hl 4 rfl) ?_
        refine lv_iload hx hb dX6_seemsFrom_86 (lv_at hl 3 rfl) ?_
        refine lv_icmp_ne (tgt := 95) hx hb dX6_seemsFrom_88 (by decide) (fun c_88 => ?_) (fun c_88 => ?_)
        · skip
          refine lv_iconst (v := 0) hx hb dX6_seemsFrom_95 (by decide) ?_
          refine lv_bipush (v := 99) hx hb dX6_seemsFrom_96 (by decide) ?_
          refine lv_iload hx hb dX6_seemsFrom_98 (lv_at hl 0 rfl) ?_
          refine k_min hc q_X6_72 dX6_seemsFrom_100 hl.1 ⟨Nat.le_of_ble_eq_true rfl, Nat.le_of_ble_eq_true rfl, Nat.le_of_ble_eq_true rfl, Nat.le_of_ble_eq_true rfl⟩ ?_
          refine k_max hc q_X6_100 dX6_seemsFrom_103 hl.1 ⟨Nat.le_of_ble_eq_true rfl, Nat.le_of_ble_eq_true rfl, Nat.le_of_ble_eq_true rfl, Nat.le_of_ble_eq_true rfl⟩ ?_
          exact k_iret hc hr dX6_seemsFrom_106 hM hS (Nat.le_of_ble_eq_true rfl) (Nat.le_of_ble_eq_true rfl) (by rw [seM, if_neg (show ¬ (mS (md 0) v = mP (md 0) w 0) from c_88), if_neg (show ¬ (ofD (md 0 0) < 12) from c_46), if_pos (show mS (md 0) v ≤ mP (md 0) w 0 from c_59)])
        · skip
          refine lv_iload_n hx hb dX6_seemsFrom_91 rfl (lv_at hl 4 rfl) ?_
          refine lv_goto (tgt := 106) hx hb dX6_seemsFrom_92 (by decide) ?_
          exact k_iret hc hr dX6_seemsFrom_106 hM hS (Nat.le_of_ble_eq_true rfl) (Nat.le_of_ble_eq_true rfl) (by rw [seM, if_pos (show mS (md 0) v = mP (md 0) w 0 from c_88)])
      · skip
        exact absurd c_69 (by decide)
    · skip
      refine lv_iconst (v := 1) hx hb dX6_seemsFrom_62 (by decide) ?_
      refine lv_goto (tgt := 67) hx hb dX6_seemsFrom_63 (by decide) ?_
      refine lv_iload hx hb dX6_seemsFrom_67 (lv_at hl 0 rfl) ?_
      refine lv_icmp_ne (tgt := 79) hx hb dX6_seemsFrom_69 (by decide) (fun c_69 => ?_) (fun c_69 => ?_)
      · skip
        exact absurd c_69 (by decide)
      · skip
        refine lv_iload_n hx hb dX6_seemsFrom_72 rfl (lv_at hl 3 rfl) ?_
        refine lv_iload hx hb dX6_seemsFrom_73 (lv_at hl 1 rfl) ?_
        refine lv_isub hx hb dX6_seemsFrom_75 ?_
        refine lv_goto (tgt := 83) hx hb dX6_seemsFrom_76 (by decide) ?_
        refine lv_istore (lv' := [(7, .int (((md 0) (9 + v).toNatClampNeg) - (((mHb (md 0) 0) * (farM (md 0) v w)) / 50))), (6, .int 1), (5, .int (((mHb (md 0) 0) * (farM (md 0) v w)) / 50)), (4, .int (mP (md 0) w 0)), (3, .int ((md 0) (9 + v).toNatClampNeg)), (0, .ref q), (1, .int v), (2, .int w)]) hx hb dX6_seemsFrom_83 hl (by decide) rfl (fun ls hl => ?_)
        refine lv_iload_n hx hb dX6_seemsFrom_85 rfl (lv_at hl 4 rfl) ?_
        refine lv_iload hx hb dX6_seemsFrom_86 (lv_at hl 3 rfl) ?_
        refine lv_icmp_ne (tgt := 95) hx hb dX6_seemsFrom_88 (by decide) (fun c_88 => ?_) (fun c_88 => ?_)
        · skip
          refine lv_iconst (v := 0) hx hb dX6_seemsFrom_95 (by decide) ?_
          refine lv_bipush (v := 99) hx hb dX6_seemsFrom_96 (by decide) ?_
          refine lv_iload hx hb dX6_seemsFrom_98 (lv_at hl 0 rfl) ?_
          refine k_min hc q_X6_72 dX6_seemsFrom_100 hl.1 ⟨Nat.le_of_ble_eq_true rfl, Nat.le_of_ble_eq_true rfl, Nat.le_of_ble_eq_true rfl, Nat.le_of_ble_eq_true rfl⟩ ?_
          refine k_max hc q_X6_100 dX6_seemsFrom_103 hl.1 ⟨Nat.le_of_ble_eq_true rfl, Nat.le_of_ble_eq_true rfl, Nat.le_of_ble_eq_true rfl, Nat.le_of_ble_eq_true rfl⟩ ?_
          exact k_iret hc hr dX6_seemsFrom_106 hM hS (Nat.le_of_ble_eq_true rfl) (Nat.le_of_ble_eq_true rfl) (by rw [seM, if_neg (show ¬ (mS (md 0) v = mP (md 0) w 0) from c_88), if_neg (show ¬ (ofD (md 0 0) < 12) from c_46), if_neg (show ¬ (mS (md 0) v ≤ mP (md 0) w 0) from c_59)])
        · skip
          refine lv_iload_n hx hb dX6_seemsFrom_91 rfl (lv_at hl 4 rfl) ?_
          refine lv_goto (tgt := 106) hx hb dX6_seemsFrom_92 (by decide) ?_
          exact k_iret hc hr dX6_seemsFrom_106 hM hS (Nat.le_of_ble_eq_true rfl) (Nat.le_of_ble_eq_true rfl) (by rw [seM, if_pos (show mS (md 0) v = mP (md 0) w 0 from c_88)])
set_option maxHeartbeats 4000000 in
set_option maxRecDepth 100000 in
theorem c_X6_drawn (l : Launch) (hlf : l.stackTraces = false) (g : GC) (M : HM) (q : Nat) (md : FL) (v : Int32) (w : Int32) (hW : MdAt g M q md) (hs : okS v) (hh : okH w) : KM g l yX6_drawn cX6_drawn 3 (some .int) 1 0 0 [.ref q, .int v, .int w] M (.inl (some (.int (mD (md 0) v w)), M)) := by
  refine k_meth hlf (by decide) (Nat.le_of_ble_eq_true rfl) fun p e s m below meth c ls hc hr hnx hM hS hl => ?_
  have hc : Cx g p l s m [.ref q, .int v, .int w].toArray meth c cX6_drawn 3 RX6 := hc
  have hx := hc.1
  have hb := hc.2.1
  have hl : lv_has ls 3 [(0, .ref q), (1, .int v), (2, .int w)] := hl
  refine lv_aload_n hx hb dX6_drawn_0 rfl (lv_at hl 0 rfl) ?_
  refine gt_X6_9 hc dX6_drawn_1 hM hW.o rfl ?_
  refine lv_bipush (v := 27) hx hb dX6_drawn_4 (by decide) ?_
  refine lv_bipush (v := 10) hx hb dX6_drawn_6 (by decide) ?_
  refine lv_iload_n hx hb dX6_drawn_8 rfl (lv_at hl 2 rfl) ?_
  refine lv_imul hx hb dX6_drawn_9 ?_
  refine lv_iadd hx hb dX6_drawn_10 ?_
  refine lv_iload_n hx hb dX6_drawn_11 rfl (lv_at hl 1 rfl) ?_
  refine lv_iadd hx hb dX6_drawn_12 ?_
  refine k_iald hc hM (hW.ar 0 (by decide) (by decide) rfl rfl) (inD (by assumption) (by assumption)) dX6_drawn_13 ?_
  refine lv_iconst (v := 1) hx hb dX6_drawn_14 (by decide) ?_
  refine lv_isub hx hb dX6_drawn_15 ?_
  exact k_iret hc hr dX6_drawn_16 hM hS (Nat.le_of_ble_eq_true rfl) (Nat.le_of_ble_eq_true rfl) (by rfl)
set_option maxHeartbeats 4000000 in
set_option maxRecDepth 100000 in
theorem c_X6_tied (l : Launch) (hlf : l.stackTraces = false) (g : GC) (M : HM) (q : Nat) (md : FL) (hW : MdAt g M q md) (hI : mOk (md 0)) : KM g l yX6_tied cX6_tied 3 (some .int) 2 0 0 [.ref q] M (.inl (some (.int (tdM (md 0))), M)) := by
  refine k_meth hlf (by decide) (Nat.le_of_ble_eq_true rfl) fun p e s m below meth c ls hc hr hnx hM hS hl => ?_
  have hc : Cx g p l s m [.ref q].toArray meth c cX6_tied 3 RX6 := hc
  have hx := hc.1
  have hb := hc.2.1
  have hl : lv_has ls 3 [(0, .ref q)] := hl
  refine lv_iconst (v := 0) hx hb dX6_tied_0 (by decide) ?_
  refine lv_istore_n (lv' := [(1, .int 0), (0, .ref q)]) hx hb dX6_tied_1 rfl hl (by decide) rfl (fun ls hl => ?_)
  refine lv_iconst (v := 0) hx hb dX6_tied_2 (by decide) ?_
  refine lv_istore_n (lv' := [(2, .int 0), (1, .int 0), (0, .ref q)]) hx hb dX6_tied_3 rfl hl (by decide) rfl (fun ls hl => ?_)
  have lp_4 : ∀ (D k : Nat), ((md 0 5).toNatClampNeg) - k < D → k ≤ (md 0 5).toNatClampNeg → ∀ (ls : Array Slot) (H : Heap) (locs : List Loc), hR g M H → va_S (gA g) s.heap H locs → lv_has ls 3 [(2, .int (nI k)), (1, .int (itr (tdS (md 0)) 0 k)), (0, .ref q)] → W p l e (rmOf 2 0 0) s m [.ref q].toArray below meth c H locs 0 0 (vx_MQ below (KQ g (.inl (some (.int (tdM (md 0))), M))) (KX g (.inl (some (.int (tdM (md 0))), M))) [.ref q].toArray s 0 0 (gA g)) (F0 m 4 ls []) := by
    intro D
    induction D with
    | zero => intro k hD; exact absurd hD (Nat.not_lt_zero _)
    | succ D ih_4 =>
      intro k hD hk ls H locs hM hS hl
      refine lv_iload_n hx hb dX6_tied_4 rfl (lv_at hl 0 rfl) ?_
      refine lv_aload_n hx hb dX6_tied_5 rfl (lv_at hl 2 rfl) ?_
      refine gt_X6_9 hc dX6_tied_6 hM hW.o rfl ?_
      refine lv_iconst (v := 5) hx hb dX6_tied_9 (by decide) ?_
      refine k_ialdN hc hM (n := 81) (hW.ar 0 (by decide) (by decide) rfl rfl) (X := 5) rfl (by omega) (by decide) dX6_tied_10 ?_
      refine lv_icmp_ge (tgt := 29) hx hb dX6_tied_11 (by decide) (fun c_11 => ?_) (fun c_11 => ?_)
      · skip
        have c_11 := (k_le (by have := k_clamp_lt (md 0 5); omega)).mp c_11
        refine lv_iload_n hx hb dX6_tied_29 rfl (lv_at hl 1 rfl) ?_
        exact k_iret hc hr dX6_tied_30 hM hS (Nat.le_of_ble_eq_true rfl) (Nat.le_of_ble_eq_true rfl) (by rw [tdM, show k = (md 0 5).toNatClampNeg by omega])
      · skip
        have c_11 : ¬ (md 0 5).toNatClampNeg ≤ k := fun h => c_11 ((k_le (by have := k_clamp_lt (md 0 5); omega)).mpr h)
        have ok_11 := kC_ok (f := md 0) hI c_11
        refine lv_iload_n hx hb dX6_tied_14 rfl (lv_at hl 1 rfl) ?_
        refine lv_aload_n hx hb dX6_tied_15 rfl (lv_at hl 2 rfl) ?_
        refine lv_iload_n hx hb dX6_tied_16 rfl (lv_at hl 0 rfl) ?_
        refine lv_iconst (v := 2) hx hb dX6_tied_17 (by decide) ?_
        refine k_V1 hc [.int (nI k), .int 2] cw_X6_68 rfl dX6_tied_18 (c_X6_ofCamel l hlf g _ q md (nI k) 2 hW (by first | assumption | decide) (by first | assumption | decide)) hW.o hM hS hl.1 rfl rfl ⟨Nat.le_of_ble_eq_true rfl, Nat.le_of_ble_eq_true rfl⟩ ⟨Nat.le_of_ble_eq_true rfl, Nat.le_of_ble_eq_true rfl⟩ (Nat.le_of_ble_eq_true rfl) (fun H locs hM hS => ?_)
        refine lv_iadd hx hb dX6_tied_21 ?_
        refine lv_istore_n (lv' := [(1, .int ((itr (tdS (md 0)) 0 k) + (mC (md 0) (nI k) 2))), (2, .int (nI k)), (0, .ref q)]) hx hb dX6_tied_22 rfl hl (by decide) rfl (fun ls hl => ?_)
        refine lv_iinc (v := (nI (k + 1))) (lv' := [(2, .int (nI (k + 1))), (1, .int ((itr (tdS (md 0)) 0 k) + (mC (md 0) (nI k) 2))), (0, .ref q)]) hx hb dX6_tied_23 hl (k := 1) rfl (k_inc1 _) (by decide) rfl (fun ls hl => ?_)
        refine lv_goto (tgt := 4) hx hb dX6_tied_26 (by decide) ?_
        have z_1 : ((itr (tdS (md 0)) 0 k) + (mC (md 0) (nI k) 2)) = (itr (tdS (md 0)) 0 (k + 1)) := rfl
        have hl := lv_chg (lv_sub hl [1, 0, 2] rfl) z_1
        exact ih_4 (k + 1) (by omega) (by omega) ls _ _ hM hS (lv_sub hl [1, 0, 2] rfl)
  have z_2 : 0 = (nI 0) := rfl
  have hl := lv_chg (lv_sub hl [0, 1, 2] rfl) z_2
  have z_1 : 0 = (itr (tdS (md 0)) 0 0) := rfl
  have hl := lv_chg (lv_sub hl [1, 0, 2] rfl) z_1
  exact lp_4 ((md 0 5).toNatClampNeg + 1) 0 (by omega) (by omega) ls _ _ hM hS (lv_sub hl [1, 0, 2] rfl)
