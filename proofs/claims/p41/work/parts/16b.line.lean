/-! the line, the history -/
set_option maxHeartbeats 4000000 in
set_option maxRecDepth 100000 in
theorem c_X2_length (l : Launch) (hlf : l.stackTraces = false) (g : GC) (M : HM) (x : Nat) (cs : CS) (hW : ClsAt g M x cs) : KM g l yX2_length cX2_length 1 (some .int) 1 0 0 [.ref (x + 194)] M (.inl (some (.int (cs 11 3 4)), M)) := by
  refine k_meth hlf (by decide) (Nat.le_of_ble_eq_true rfl) fun p e s m below meth c ls hc hr hnx hM hS hl => ?_
  have hc : Cx g p l s m [.ref (x + 194)].toArray meth c cX2_length 1 RX2 := hc
  have hx := hc.1
  have hb := hc.2.1
  have hl : lv_has ls 1 [(0, .ref (x + 194))] := hl
  refine lv_aload_n hx hb dX2_length_0 rfl (lv_at hl 0 rfl) ?_
  refine gt_X2_15 hc dX2_length_1 hM hW.li rfl ?_
  exact k_iret hc hr dX2_length_4 hM hS (Nat.le_of_ble_eq_true rfl) (Nat.le_of_ble_eq_true rfl) (by rfl)
set_option maxHeartbeats 4000000 in
set_option maxRecDepth 100000 in
theorem c_X2_signAt (l : Launch) (hlf : l.stackTraces = false) (g : GC) (M : HM) (x : Nat) (cs : CS) (i : Int32) (hW : ClsAt g M x cs) (ht : lsOk cs) : KM g l yX2_signAt cX2_signAt 2 (some .char) 1 0 0 [.ref (x + 194), .int i] M (.inl (some (.int (if ¬ i < 0 ∧ ¬ cs 11 3 4 ≤ i ∧ ¬ nI 79 ≤ i then cs 11 2 (i).toNatClampNeg else 32)), M)) := by
  refine k_meth hlf (by decide) (Nat.le_of_ble_eq_true rfl) fun p e s m below meth c ls hc hr hnx hM hS hl => ?_
  have hc : Cx g p l s m [.ref (x + 194), .int i].toArray meth c cX2_signAt 2 RX2 := hc
  have hx := hc.1
  have hb := hc.2.1
  have hl : lv_has ls 2 [(0, .ref (x + 194)), (1, .int i)] := hl
  refine lv_iload_n hx hb dX2_signAt_0 rfl (lv_at hl 1 rfl) ?_
  refine lv_if_lt (tgt := 30) hx hb dX2_signAt_1 (by decide) (fun c_1 => ?_) (fun c_1 => ?_)
  · skip
    refine lv_bipush (v := 32) hx hb dX2_signAt_30 (by decide) ?_
    exact k_zret hc hr dX2_signAt_32 hM hS (by first | rfl | exact ht _) (Nat.le_of_ble_eq_true rfl) (Nat.le_of_ble_eq_true rfl) (by simp only [eq_true c_1, not_false_eq_true, not_true_eq_false, and_true, true_and, and_false, false_and, and_self, ↓reduceIte, or_true, true_or, or_self, or_false, false_or])
  · skip
    refine lv_iload_n hx hb dX2_signAt_4 rfl (lv_at hl 1 rfl) ?_
    refine lv_aload_n hx hb dX2_signAt_5 rfl (lv_at hl 0 rfl) ?_
    refine gt_X2_15 hc dX2_signAt_6 hM hW.li rfl ?_
    refine lv_icmp_ge (tgt := 30) hx hb dX2_signAt_9 (by decide) (fun c_9 => ?_) (fun c_9 => ?_)
    · skip
      refine lv_bipush (v := 32) hx hb dX2_signAt_30 (by decide) ?_
      exact k_zret hc hr dX2_signAt_32 hM hS (by first | rfl | exact ht _) (Nat.le_of_ble_eq_true rfl) (Nat.le_of_ble_eq_true rfl) (by simp only [eq_false c_1, eq_true c_9, not_false_eq_true, not_true_eq_false, and_true, true_and, and_false, false_and, and_self, ↓reduceIte, or_true, true_or, or_self, or_false, false_or])
    · skip
      refine lv_iload_n hx hb dX2_signAt_12 rfl (lv_at hl 1 rfl) ?_
      refine lv_aload_n hx hb dX2_signAt_13 rfl (lv_at hl 0 rfl) ?_
      refine gt_X2_9 hc dX2_signAt_14 hM hW.li rfl ?_
      refine k_alenC hc hM hW.ls dX2_signAt_17 ?_
      refine lv_icmp_ge (tgt := 30) hx hb dX2_signAt_18 (by decide) (fun c_18 => ?_) (fun c_18 => ?_)
      · skip
        refine lv_bipush (v := 32) hx hb dX2_signAt_30 (by decide) ?_
        exact k_zret hc hr dX2_signAt_32 hM hS (by first | rfl | exact ht _) (Nat.le_of_ble_eq_true rfl) (Nat.le_of_ble_eq_true rfl) (by simp only [eq_false c_1, eq_false c_9, eq_true c_18, not_false_eq_true, not_true_eq_false, and_true, true_and, and_false, false_and, and_self, ↓reduceIte, or_true, true_or, or_self, or_false, false_or])
      · skip
        refine lv_aload_n hx hb dX2_signAt_21 rfl (lv_at hl 0 rfl) ?_
        refine gt_X2_9 hc dX2_signAt_22 hM hW.li rfl ?_
        refine lv_iload_n hx hb dX2_signAt_25 rfl (lv_at hl 1 rfl) ?_
        refine k_cald hc hM hW.ls (in_of (by decide) c_1 c_18) dX2_signAt_26 ?_
        refine lv_goto (tgt := 32) hx hb dX2_signAt_27 (by decide) ?_
        exact k_zret hc hr dX2_signAt_32 hM hS (by first | rfl | exact ht _) (Nat.le_of_ble_eq_true rfl) (Nat.le_of_ble_eq_true rfl) (by simp only [eq_false c_1, eq_false c_9, eq_false c_18, not_false_eq_true, not_true_eq_false, and_true, true_and, and_false, false_and, and_self, ↓reduceIte, or_true, true_or, or_self, or_false, false_or])
set_option maxHeartbeats 4000000 in
set_option maxRecDepth 100000 in
theorem c_X2_clear (l : Launch) (hlf : l.stackTraces = false) (g : GC) (M : HM) (x : Nat) (cs : CS) (hW : ClsAt g M x cs) : KM g l yX2_clear cX2_clear 1 none 1 0 0 [.ref (x + 194)] M (.inl (none, (putC g M x (upS cs 4 0)))) := by
  refine k_meth hlf (by decide) (Nat.le_of_ble_eq_true rfl) fun p e s m below meth c ls hc hr hnx hM hS hl => ?_
  have hc : Cx g p l s m [.ref (x + 194)].toArray meth c cX2_clear 1 RX2 := hc
  have hx := hc.1
  have hb := hc.2.1
  have hl : lv_has ls 1 [(0, .ref (x + 194))] := hl
  refine lv_aload_n hx hb dX2_clear_0 rfl (lv_at hl 0 rfl) ?_
  refine lv_iconst (v := 0) hx hb dX2_clear_1 (by decide) ?_
  refine pt_X2_15 hc dX2_clear_2 hM hS hW.li rfl rfl (Nat.le_of_ble_eq_true rfl) (fun H locs hM hS => ?_)
  have hM := hR.eq hM (putC_li hW (v := 0) li_s4)
  have hW := ClsAt.put (g := g) (M := M) (x := x) (cs := (upS cs 4 0))
  exact k_vret hc hr dX2_clear_5 hM hS (Nat.le_of_ble_eq_true rfl) (Nat.le_of_ble_eq_true rfl) (by rfl)
set_option maxHeartbeats 4000000 in
set_option maxRecDepth 100000 in
theorem c_X2_put (l : Launch) (hlf : l.stackTraces = false) (g : GC) (M : HM) (x : Nat) (cs : CS) (v : Int32) (hW : ClsAt g M x cs) (hv : chOk v) : KM g l yX2_put cX2_put 2 none 1 0 0 [.ref (x + 194), .int v] M (.inl (none, (putC g M x (lpS cs v)))) := by
  refine k_meth hlf (by decide) (Nat.le_of_ble_eq_true rfl) fun p e s m below meth c ls hc hr hnx hM hS hl => ?_
  have hc : Cx g p l s m [.ref (x + 194), .int v].toArray meth c cX2_put 2 RX2 := hc
  have hx := hc.1
  have hb := hc.2.1
  have hl : lv_has ls 2 [(0, .ref (x + 194)), (1, .int v)] := hl
  refine lv_aload_n hx hb dX2_put_0 rfl (lv_at hl 0 rfl) ?_
  refine gt_X2_15 hc dX2_put_1 hM hW.li rfl ?_
  refine lv_if_lt (tgt := 39) hx hb dX2_put_4 (by decide) (fun c_4 => ?_) (fun c_4 => ?_)
  · skip
    exact k_vret hc hr dX2_put_39 hM hS (Nat.le_of_ble_eq_true rfl) (Nat.le_of_ble_eq_true rfl) (by simp only [lpS, eq_true c_4, not_false_eq_true, not_true_eq_false, and_true, true_and, and_false, false_and, and_self, ↓reduceIte, or_true, true_or, or_self, or_false, false_or]; try rw [putC_same hW])
  · skip
    refine lv_aload_n hx hb dX2_put_7 rfl (lv_at hl 0 rfl) ?_
    refine gt_X2_15 hc dX2_put_8 hM hW.li rfl ?_
    refine lv_aload_n hx hb dX2_put_11 rfl (lv_at hl 0 rfl) ?_
    refine gt_X2_9 hc dX2_put_12 hM hW.li rfl ?_
    refine k_alenC hc hM hW.ls dX2_put_15 ?_
    refine lv_icmp_ge (tgt := 39) hx hb dX2_put_16 (by decide) (fun c_16 => ?_) (fun c_16 => ?_)
    · skip
      exact k_vret hc hr dX2_put_39 hM hS (Nat.le_of_ble_eq_true rfl) (Nat.le_of_ble_eq_true rfl) (by simp only [lpS, eq_false c_4, eq_true c_16, not_false_eq_true, not_true_eq_false, and_true, true_and, and_false, false_and, and_self, ↓reduceIte, or_true, true_or, or_self, or_false, false_or]; try rw [putC_same hW])
    · skip
      refine lv_aload_n hx hb dX2_put_19 rfl (lv_at hl 0 rfl) ?_
      refine gt_X2_9 hc dX2_put_20 hM hW.li rfl ?_
      refine lv_aload_n hx hb dX2_put_23 rfl (lv_at hl 0 rfl) ?_
      refine gt_X2_15 hc dX2_put_24 hM hW.li rfl ?_
      refine lv_iload_n hx hb dX2_put_27 rfl (lv_at hl 1 rfl) ?_
      refine k_cast hc hM hS hW.ls hv.v (in_of (by decide) c_4 c_16) dX2_put_28 (fun H locs hM hS => ?_)
      have hM := hR.eq hM (putC_ls hW)
      have hW := ClsAt.put (g := g) (M := M) (x := x) (cs := (upA cs 2 (upd (cs 11 2) (cs 11 3 4).toNatClampNeg v)))
      refine lv_aload_n hx hb dX2_put_29 rfl (lv_at hl 0 rfl) ?_
      refine lv_dup hx hb dX2_put_30 rfl ?_
      refine gt_X2_15 hc dX2_put_31 hM hW.li rfl ?_
      refine lv_iconst (v := 1) hx hb dX2_put_34 (by decide) ?_
      refine lv_iadd hx hb dX2_put_35 ?_
      refine pt_X2_15 hc dX2_put_36 hM hS hW.li rfl rfl (Nat.le_of_ble_eq_true rfl) (fun H locs hM hS => ?_)
      have hM := hR.eq hM (putC_li hW (v := (((upA cs 2 (upd (cs 11 2) (cs 11 3 4).toNatClampNeg v)) 11 3 4) + 1)) li_s4)
      have hM := hR.eq hM putC_putC
      have hW := ClsAt.put (g := g) (M := M) (x := x) (cs := (upS (upA cs 2 (upd (cs 11 2) (cs 11 3 4).toNatClampNeg v)) 4 (((upA cs 2 (upd (cs 11 2) (cs 11 3 4).toNatClampNeg v)) 11 3 4) + 1)))
      exact k_vret hc hr dX2_put_39 hM hS (Nat.le_of_ble_eq_true rfl) (Nat.le_of_ble_eq_true rfl) (by simp only [lpS, eq_false c_4, eq_false c_16, not_false_eq_true, not_true_eq_false, and_true, true_and, and_false, false_and, and_self, ↓reduceIte, or_true, true_or, or_self, or_false, false_or]; try rw [putC_same hW])
set_option maxHeartbeats 4000000 in
set_option maxRecDepth 100000 in
theorem c_X2_putNumber (l : Launch) (hlf : l.stackTraces = false) (g : GC) (M : HM) (x : Nat) (cs : CS) (n : Int32) (hW : ClsAt g M x cs) : KM g l yX2_putNumber cX2_putNumber 2 none 2 0 0 [.ref (x + 194), .int n] M (.inl (none, (putC g M x (lnS cs n)))) := by
  refine k_meth hlf (by decide) (Nat.le_of_ble_eq_true rfl) fun p e s m below meth c ls hc hr hnx hM hS hl => ?_
  have hc : Cx g p l s m [.ref (x + 194), .int n].toArray meth c cX2_putNumber 2 RX2 := hc
  have hx := hc.1
  have hb := hc.2.1
  have hl : lv_has ls 2 [(0, .ref (x + 194)), (1, .int n)] := hl
  refine lv_iload_n hx hb dX2_putNumber_0 rfl (lv_at hl 1 rfl) ?_
  refine lv_bipush (v := 10) hx hb dX2_putNumber_1 (by decide) ?_
  refine lv_icmp_lt (tgt := 21) hx hb dX2_putNumber_3 (by decide) (fun c_3 => ?_) (fun c_3 => ?_)
  · skip
    refine lv_aload_n hx hb dX2_putNumber_21 rfl (lv_at hl 0 rfl) ?_
    refine lv_bipush (v := 48) hx hb dX2_putNumber_22 (by decide) ?_
    refine lv_iload_n hx hb dX2_putNumber_24 rfl (lv_at hl 1 rfl) ?_
    refine lv_bipush (v := 10) hx hb dX2_putNumber_25 (by decide) ?_
    refine lv_irem hx hb dX2_putNumber_27 (by decide) ?_
    refine lv_iadd hx hb dX2_putNumber_28 ?_
    refine lv_i2c (v := (c2I (48 + (n - n / 10 * 10)))) hx hb dX2_putNumber_29 rfl ?_
    refine k_V0 hc [.int (c2I (48 + (n - n / 10 * 10)))] cw_X2_19 rfl dX2_putNumber_30 (c_X2_put l hlf g _ x cs (c2I (48 + (n - n / 10 * 10))) hW (c2I_ok _)) hW.li hM hS hl.1 rfl rfl ⟨Nat.le_of_ble_eq_true rfl, Nat.le_of_ble_eq_true rfl⟩ ⟨Nat.le_of_ble_eq_true rfl, Nat.le_of_ble_eq_true rfl⟩ (Nat.le_of_ble_eq_true rfl) (fun H locs hM hS => ?_)
    have hW := ClsAt.put (g := g) (M := M) (x := x) (cs := (lpS cs (c2I (48 + (n - n / 10 * 10)))))
    exact k_vret hc hr dX2_putNumber_33 hM hS (Nat.le_of_ble_eq_true rfl) (Nat.le_of_ble_eq_true rfl) (by simp only [lnS, eq_true c_3, not_false_eq_true, not_true_eq_false, and_true, true_and, and_false, false_and, and_self, ↓reduceIte, or_true, true_or, or_self, or_false, false_or]; try rw [putC_same hW])
  · skip
    refine lv_aload_n hx hb dX2_putNumber_6 rfl (lv_at hl 0 rfl) ?_
    refine lv_bipush (v := 48) hx hb dX2_putNumber_7 (by decide) ?_
    refine lv_iload_n hx hb dX2_putNumber_9 rfl (lv_at hl 1 rfl) ?_
    refine lv_bipush (v := 10) hx hb dX2_putNumber_10 (by decide) ?_
    refine lv_idiv hx hb dX2_putNumber_12 (by decide) ?_
    refine lv_bipush (v := 10) hx hb dX2_putNumber_13 (by decide) ?_
    refine lv_irem hx hb dX2_putNumber_15 (by decide) ?_
    refine lv_iadd hx hb dX2_putNumber_16 ?_
    refine lv_i2c (v := (c2I (48 + ((n / 10) - (n / 10) / 10 * 10)))) hx hb dX2_putNumber_17 rfl ?_
    refine k_V0 hc [.int (c2I (48 + ((n / 10) - (n / 10) / 10 * 10)))] cw_X2_19 rfl dX2_putNumber_18 (c_X2_put l hlf g _ x cs (c2I (48 + ((n / 10) - (n / 10) / 10 * 10))) hW (c2I_ok _)) hW.li hM hS hl.1 rfl rfl ⟨Nat.le_of_ble_eq_true rfl, Nat.le_of_ble_eq_true rfl⟩ ⟨Nat.le_of_ble_eq_true rfl, Nat.le_of_ble_eq_true rfl⟩ (Nat.le_of_ble_eq_true rfl) (fun H locs hM hS => ?_)
    have hW := ClsAt.put (g := g) (M := M) (x := x) (cs := (lpS cs (c2I (48 + ((n / 10) - (n / 10) / 10 * 10)))))
    refine lv_aload_n hx hb dX2_putNumber_21 rfl (lv_at hl 0 rfl) ?_
    refine lv_bipush (v := 48) hx hb dX2_putNumber_22 (by decide) ?_
    refine lv_iload_n hx hb dX2_putNumber_24 rfl (lv_at hl 1 rfl) ?_
    refine lv_bipush (v := 10) hx hb dX2_putNumber_25 (by decide) ?_
    refine lv_irem hx hb dX2_putNumber_27 (by decide) ?_
    refine lv_iadd hx hb dX2_putNumber_28 ?_
    refine lv_i2c (v := (c2I (48 + (n - n / 10 * 10)))) hx hb dX2_putNumber_29 rfl ?_
    refine k_V0 hc [.int (c2I (48 + (n - n / 10 * 10)))] cw_X2_19 rfl dX2_putNumber_30 (c_X2_put l hlf g _ x (lpS cs (c2I (48 + ((n / 10) - (n / 10) / 10 * 10)))) (c2I (48 + (n - n / 10 * 10))) hW (c2I_ok _)) hW.li hM hS hl.1 rfl rfl ⟨Nat.le_of_ble_eq_true rfl, Nat.le_of_ble_eq_true rfl⟩ ⟨Nat.le_of_ble_eq_true rfl, Nat.le_of_ble_eq_true rfl⟩ (Nat.le_of_ble_eq_true rfl) (fun H locs hM hS => ?_)
    have hM := hR.eq hM putC_putC
    have hW := ClsAt.put (g := g) (M := M) (x := x) (cs := (lpS (lpS cs (c2I (48 + ((n / 10) - (n / 10) / 10 * 10)))) (c2I (48 + (n - n / 10 * 10)))))
    exact k_vret hc hr dX2_putNumber_33 hM hS (Nat.le_of_ble_eq_true rfl) (Nat.le_of_ble_eq_true rfl) (by simp only [lnS, eq_false c_3, not_false_eq_true, not_true_eq_false, and_true, true_and, and_false, false_and, and_self, ↓reduceIte, or_true, true_or, or_self, or_false, false_or]; try rw [putC_same hW])
set_option maxHeartbeats 4000000 in
set_option maxRecDepth 100000 in
theorem c_X2_putStake (l : Launch) (hlf : l.stackTraces = false) (g : GC) (M : HM) (x : Nat) (cs : CS) (i : Int32) (j : Int32) (o : Int32) (hW : ClsAt g M x cs) : KM g l yX2_putStake cX2_putStake 4 none 5 0 0 [.ref (x + 194), .int i, .int j, .int o] M (.inl (none, (putC g M x (lkS cs i j o)))) := by
  refine k_meth hlf (by decide) (Nat.le_of_ble_eq_true rfl) fun p e s m below meth c ls hc hr hnx hM hS hl => ?_
  have hc : Cx g p l s m [.ref (x + 194), .int i, .int j, .int o].toArray meth c cX2_putStake 4 RX2 := hc
  have hx := hc.1
  have hb := hc.2.1
  have hl : lv_has ls 4 [(0, .ref (x + 194)), (1, .int i), (2, .int j), (3, .int o)] := hl
  refine lv_aload_n hx hb dX2_putStake_0 rfl (lv_at hl 0 rfl) ?_
  refine gt_X2_15 hc dX2_putStake_1 hM hW.li rfl ?_
  refine lv_if_le (tgt := 13) hx hb dX2_putStake_4 (by decide) (fun c_4 => ?_) (fun c_4 => ?_)
  · skip
    refine lv_aload_n hx hb dX2_putStake_13 rfl (lv_at hl 0 rfl) ?_
    refine lv_iload_n hx hb dX2_putStake_14 rfl (lv_at hl 1 rfl) ?_
    refine k_V0 hc [.int i] cw_X2_23 rfl dX2_putStake_15 (c_X2_putNumber l hlf g _ x cs i hW) hW.li hM hS hl.1 rfl rfl ⟨Nat.le_of_ble_eq_true rfl, Nat.le_of_ble_eq_true rfl⟩ ⟨Nat.le_of_ble_eq_true rfl, Nat.le_of_ble_eq_true rfl⟩ (Nat.le_of_ble_eq_true rfl) (fun H locs hM hS => ?_)
    have hW := ClsAt.put (g := g) (M := M) (x := x) (cs := (lnS cs i))
    refine lv_aload_n hx hb dX2_putStake_18 rfl (lv_at hl 0 rfl) ?_
    refine lv_bipush (v := 64) hx hb dX2_putStake_19 (by decide) ?_
    refine k_V0 hc [.int 64] cw_X2_19 rfl dX2_putStake_21 (c_X2_put l hlf g _ x (lnS cs i) 64 hW rfl) hW.li hM hS hl.1 rfl rfl ⟨Nat.le_of_ble_eq_true rfl, Nat.le_of_ble_eq_true rfl⟩ ⟨Nat.le_of_ble_eq_true rfl, Nat.le_of_ble_eq_true rfl⟩ (Nat.le_of_ble_eq_true rfl) (fun H locs hM hS => ?_)
    have hM := hR.eq hM putC_putC
    have hW := ClsAt.put (g := g) (M := M) (x := x) (cs := (lpS (lnS cs i) 64))
    refine lv_aload_n hx hb dX2_putStake_24 rfl (lv_at hl 0 rfl) ?_
    refine lv_iload_n hx hb dX2_putStake_25 rfl (lv_at hl 2 rfl) ?_
    refine k_V0 hc [.int j] cw_X2_23 rfl dX2_putStake_26 (c_X2_putNumber l hlf g _ x (lpS (lnS cs i) 64) j hW) hW.li hM hS hl.1 rfl rfl ⟨Nat.le_of_ble_eq_true rfl, Nat.le_of_ble_eq_true rfl⟩ ⟨Nat.le_of_ble_eq_true rfl, Nat.le_of_ble_eq_true rfl⟩ (Nat.le_of_ble_eq_true rfl) (fun H locs hM hS => ?_)
    have hM := hR.eq hM putC_putC
    have hW := ClsAt.put (g := g) (M := M) (x := x) (cs := (lnS (lpS (lnS cs i) 64) j))
    refine lv_iload_n hx hb dX2_putStake_29 rfl (lv_at hl 3 rfl) ?_
    refine lv_if_eq (tgt := 56) hx hb dX2_putStake_30 (by decide) (fun c_30 => ?_) (fun c_30 => ?_)
    · skip
      exact k_vret hc hr dX2_putStake_56 hM hS (Nat.le_of_ble_eq_true rfl) (Nat.le_of_ble_eq_true rfl) (by simp only [lkS, lk2, lk1, eq_true c_4, eq_true c_30, not_false_eq_true, not_true_eq_false, and_true, true_and, and_false, false_and, and_self, ↓reduceIte, or_true, true_or, or_self, or_false, false_or]; try rw [putC_same hW])
    · skip
      refine lv_aload_n hx hb dX2_putStake_33 rfl (lv_at hl 0 rfl) ?_
      refine lv_iload_n hx hb dX2_putStake_34 rfl (lv_at hl 3 rfl) ?_
      refine lv_if_le (tgt := 43) hx hb dX2_putStake_35 (by decide) (fun c_35 => ?_) (fun c_35 => ?_)
      · skip
        refine lv_bipush (v := 45) hx hb dX2_putStake_43 (by decide) ?_
        refine k_V0 hc [.int 45] cw_X2_19 rfl dX2_putStake_45 (c_X2_put l hlf g _ x (lnS (lpS (lnS cs i) 64) j) 45 hW rfl) hW.li hM hS hl.1 rfl rfl ⟨Nat.le_of_ble_eq_true rfl, Nat.le_of_ble_eq_true rfl⟩ ⟨Nat.le_of_ble_eq_true rfl, Nat.le_of_ble_eq_true rfl⟩ (Nat.le_of_ble_eq_true rfl) (fun H locs hM hS => ?_)
        have hM := hR.eq hM putC_putC
        have hW := ClsAt.put (g := g) (M := M) (x := x) (cs := (lpS (lnS (lpS (lnS cs i) 64) j) 45))
        refine lv_aload_n hx hb dX2_putStake_48 rfl (lv_at hl 0 rfl) ?_
        refine lv_iload_n hx hb dX2_putStake_49 rfl (lv_at hl 3 rfl) ?_
        refine k_abs hc q_X2_27 dX2_putStake_50 hl.1 ⟨Nat.le_of_ble_eq_true rfl, Nat.le_of_ble_eq_true rfl, Nat.le_of_ble_eq_true rfl, Nat.le_of_ble_eq_true rfl⟩ ?_
        refine k_V0 hc [.int (absI o)] cw_X2_23 rfl dX2_putStake_53 (c_X2_putNumber l hlf g _ x (lpS (lnS (lpS (lnS cs i) 64) j) 45) (absI o) hW) hW.li hM hS hl.1 rfl rfl ⟨Nat.le_of_ble_eq_true rfl, Nat.le_of_ble_eq_true rfl⟩ ⟨Nat.le_of_ble_eq_true rfl, Nat.le_of_ble_eq_true rfl⟩ (Nat.le_of_ble_eq_true rfl) (fun H locs hM hS => ?_)
        have hM := hR.eq hM putC_putC
        have hW := ClsAt.put (g := g) (M := M) (x := x) (cs := (lnS (lpS (lnS (lpS (lnS cs i) 64) j) 45) (absI o)))
        exact k_vret hc hr dX2_putStake_56 hM hS (Nat.le_of_ble_eq_true rfl) (Nat.le_of_ble_eq_true rfl) (by simp only [lkS, lk2, lk1, eq_true c_4, eq_false c_30, eq_true c_35, not_false_eq_true, not_true_eq_false, and_true, true_and, and_false, false_and, and_self, ↓reduceIte, or_true, true_or, or_self, or_false, false_or]; try rw [putC_same hW])
      · skip
        refine lv_bipush (v := 43) hx hb dX2_putStake_38 (by decide) ?_
        refine lv_goto (tgt := 45) hx hb dX2_putStake_40 (by decide) ?_
        refine k_V0 hc [.int 43] cw_X2_19 rfl dX2_putStake_45 (c_X2_put l hlf g _ x (lnS (lpS (lnS cs i) 64) j) 43 hW rfl) hW.li hM hS hl.1 rfl rfl ⟨Nat.le_of_ble_eq_true rfl, Nat.le_of_ble_eq_true rfl⟩ ⟨Nat.le_of_ble_eq_true rfl, Nat.le_of_ble_eq_true rfl⟩ (Nat.le_of_ble_eq_true rfl) (fun H locs hM hS => ?_)
        have hM := hR.eq hM putC_putC
        have hW := ClsAt.put (g := g) (M := M) (x := x) (cs := (lpS (lnS (lpS (lnS cs i) 64) j) 43))
        refine lv_aload_n hx hb dX2_putStake_48 rfl (lv_at hl 0 rfl) ?_
        refine lv_iload_n hx hb dX2_putStake_49 rfl (lv_at hl 3 rfl) ?_
        refine k_abs hc q_X2_27 dX2_putStake_50 hl.1 ⟨Nat.le_of_ble_eq_true rfl, Nat.le_of_ble_eq_true rfl, Nat.le_of_ble_eq_true rfl, Nat.le_of_ble_eq_true rfl⟩ ?_
        refine k_V0 hc [.int (absI o)] cw_X2_23 rfl dX2_putStake_53 (c_X2_putNumber l hlf g _ x (lpS (lnS (lpS (lnS cs i) 64) j) 43) (absI o) hW) hW.li hM hS hl.1 rfl rfl ⟨Nat.le_of_ble_eq_true rfl, Nat.le_of_ble_eq_true rfl⟩ ⟨Nat.le_of_ble_eq_true rfl, Nat.le_of_ble_eq_true rfl⟩ (Nat.le_of_ble_eq_true rfl) (fun H locs hM hS => ?_)
        have hM := hR.eq hM putC_putC
        have hW := ClsAt.put (g := g) (M := M) (x := x) (cs := (lnS (lpS (lnS (lpS (lnS cs i) 64) j) 43) (absI o)))
        exact k_vret hc hr dX2_putStake_56 hM hS (Nat.le_of_ble_eq_true rfl) (Nat.le_of_ble_eq_true rfl) (by simp only [lkS, lk2, lk1, eq_true c_4, eq_false c_30, eq_false c_35, not_false_eq_true, not_true_eq_false, and_true, true_and, and_false, false_and, and_self, ↓reduceIte, or_true, true_or, or_self, or_false, false_or]; try rw [putC_same hW])
  · skip
    refine lv_aload_n hx hb dX2_putStake_7 rfl (lv_at hl 0 rfl) ?_
    refine lv_bipush (v := 32) hx hb dX2_putStake_8 (by decide) ?_
    refine k_V0 hc [.int 32] cw_X2_19 rfl dX2_putStake_10 (c_X2_put l hlf g _ x cs 32 hW rfl) hW.li hM hS hl.1 rfl rfl ⟨Nat.le_of_ble_eq_true rfl, Nat.le_of_ble_eq_true rfl⟩ ⟨Nat.le_of_ble_eq_true rfl, Nat.le_of_ble_eq_true rfl⟩ (Nat.le_of_ble_eq_true rfl) (fun H locs hM hS => ?_)
    have hW := ClsAt.put (g := g) (M := M) (x := x) (cs := (lpS cs 32))
    refine lv_aload_n hx hb dX2_putStake_13 rfl (lv_at hl 0 rfl) ?_
    refine lv_iload_n hx hb dX2_putStake_14 rfl (lv_at hl 1 rfl) ?_
    refine k_V0 hc [.int i] cw_X2_23 rfl dX2_putStake_15 (c_X2_putNumber l hlf g _ x (lpS cs 32) i hW) hW.li hM hS hl.1 rfl rfl ⟨Nat.le_of_ble_eq_true rfl, Nat.le_of_ble_eq_true rfl⟩ ⟨Nat.le_of_ble_eq_true rfl, Nat.le_of_ble_eq_true rfl⟩ (Nat.le_of_ble_eq_true rfl) (fun H locs hM hS => ?_)
    have hM := hR.eq hM putC_putC
    have hW := ClsAt.put (g := g) (M := M) (x := x) (cs := (lnS (lpS cs 32) i))
    refine lv_aload_n hx hb dX2_putStake_18 rfl (lv_at hl 0 rfl) ?_
    refine lv_bipush (v := 64) hx hb dX2_putStake_19 (by decide) ?_
    refine k_V0 hc [.int 64] cw_X2_19 rfl dX2_putStake_21 (c_X2_put l hlf g _ x (lnS (lpS cs 32) i) 64 hW rfl) hW.li hM hS hl.1 rfl rfl ⟨Nat.le_of_ble_eq_true rfl, Nat.le_of_ble_eq_true rfl⟩ ⟨Nat.le_of_ble_eq_true rfl, Nat.le_of_ble_eq_true rfl⟩ (Nat.le_of_ble_eq_true rfl) (fun H locs hM hS => ?_)
    have hM := hR.eq hM putC_putC
    have hW := ClsAt.put (g := g) (M := M) (x := x) (cs := (lpS (lnS (lpS cs 32) i) 64))
    refine lv_aload_n hx hb dX2_putStake_24 rfl (lv_at hl 0 rfl) ?_
    refine lv_iload_n hx hb dX2_putStake_25 rfl (lv_at hl 2 rfl) ?_
    refine k_V0 hc [.int j] cw_X2_23 rfl dX2_putStake_26 (c_X2_putNumber l hlf g _ x (lpS (lnS (lpS cs 32) i) 64) j hW) hW.li hM hS hl.1 rfl rfl ⟨Nat.le_of_ble_eq_true rfl, Nat.le_of_ble_eq_true rfl⟩ ⟨Nat.le_of_ble_eq_true rfl, Nat.le_of_ble_eq_true rfl⟩ (Nat.le_of_ble_eq_true rfl) (fun H locs hM hS => ?_)
    have hM := hR.eq hM putC_putC
    have hW := ClsAt.put (g := g) (M := M) (x := x) (cs := (lnS (lpS (lnS (lpS cs 32) i) 64) j))
    refine lv_iload_n hx hb dX2_putStake_29 rfl (lv_at hl 3 rfl) ?_
    refine lv_if_eq (tgt := 56) hx hb dX2_putStake_30 (by decide) (fun c_30 => ?_) (fun c_30 => ?_)
    · skip
      exact k_vret hc hr dX2_putStake_56 hM hS (Nat.le_of_ble_eq_true rfl) (Nat.le_of_ble_eq_true rfl) (by simp only [lkS, lk2, lk1, eq_false c_4, eq_true c_30, not_false_eq_true, not_true_eq_false, and_true, true_and, and_false, false_and, and_self, ↓reduceIte, or_true, true_or, or_self, or_false, false_or]; try rw [putC_same hW])
    · skip
      refine lv_aload_n hx hb dX2_putStake_33 rfl (lv_at hl 0 rfl) ?_
      refine lv_iload_n hx hb dX2_putStake_34 rfl (lv_at hl 3 rfl) ?_
      refine lv_if_le (tgt := 43) hx hb dX2_putStake_35 (by decide) (fun c_35 => ?_) (fun c_35 => ?_)
      · skip
        refine lv_bipush (v := 45) hx hb dX2_putStake_43 (by decide) ?_
        refine k_V0 hc [.int 45] cw_X2_19 rfl dX2_putStake_45 (c_X2_put l hlf g _ x (lnS (lpS (lnS (lpS cs 32) i) 64) j) 45 hW rfl) hW.li hM hS hl.1 rfl rfl ⟨Nat.le_of_ble_eq_true rfl, Nat.le_of_ble_eq_true rfl⟩ ⟨Nat.le_of_ble_eq_true rfl, Nat.le_of_ble_eq_true rfl⟩ (Nat.le_of_ble_eq_true rfl) (fun H locs hM hS => ?_)
        have hM := hR.eq hM putC_putC
        have hW := ClsAt.put (g := g) (M := M) (x := x) (cs := (lpS (lnS (lpS (lnS (lpS cs 32) i) 64) j) 45))
        refine lv_aload_n hx hb dX2_putStake_48 rfl (lv_at hl 0 rfl) ?_
        refine lv_iload_n hx hb dX2_putStake_49 rfl (lv_at hl 3 rfl) ?_
        refine k_abs hc q_X2_27 dX2_putStake_50 hl.1 ⟨Nat.le_of_ble_eq_true rfl, Nat.le_of_ble_eq_true rfl, Nat.le_of_ble_eq_true rfl, Nat.le_of_ble_eq_true rfl⟩ ?_
        refine k_V0 hc [.int (absI o)] cw_X2_23 rfl dX2_putStake_53 (c_X2_putNumber l hlf g _ x (lpS (lnS (lpS (lnS (lpS cs 32) i) 64) j) 45) (absI o) hW) hW.li hM hS hl.1 rfl rfl ⟨Nat.le_of_ble_eq_true rfl, Nat.le_of_ble_eq_true rfl⟩ ⟨Nat.le_of_ble_eq_true rfl, Nat.le_of_ble_eq_true rfl⟩ (Nat.le_of_ble_eq_true rfl) (fun H locs hM hS => ?_)
        have hM := hR.eq hM putC_putC
        have hW := ClsAt.put (g := g) (M := M) (x := x) (cs := (lnS (lpS (lnS (lpS (lnS (lpS cs 32) i) 64) j) 45) (absI o)))
        exact k_vret hc hr dX2_putStake_56 hM hS (Nat.le_of_ble_eq_true rfl) (Nat.le_of_ble_eq_true rfl) (by simp only [lkS, lk2, lk1, eq_false c_4, eq_false c_30, eq_true c_35, not_false_eq_true, not_true_eq_false, and_true, true_and, and_false, false_and, and_self, ↓reduceIte, or_true, true_or, or_self, or_false, false_or]; try rw [putC_same hW])
      · skip
        refine lv_bipush (v := 43) hx hb dX2_putStake_38 (by decide) ?_
        refine lv_goto (tgt := 45) hx hb dX2_putStake_40 (by decide) ?_
        refine k_V0 hc [.int 43] cw_X2_19 rfl dX2_putStake_45 (c_X2_put l hlf g _ x (lnS (lpS (lnS (lpS cs 32) i) 64) j) 43 hW rfl) hW.li hM hS hl.1 rfl rfl ⟨Nat.le_of_ble_eq_true rfl, Nat.le_of_ble_eq_true rfl⟩ ⟨Nat.le_of_ble_eq_true rfl, Nat.le_of_ble_eq_true rfl⟩ (Nat.le_of_ble_eq_true rfl) (fun H locs hM hS => ?_)
        have hM := hR.eq hM putC_putC
        have hW := ClsAt.put (g := g) (M := M) (x := x) (cs := (lpS (lnS (lpS (lnS (lpS cs 32) i) 64) j) 43))
        refine lv_aload_n hx hb dX2_putStake_48 rfl (lv_at hl 0 rfl) ?_
        refine lv_iload_n hx hb dX2_putStake_49 rfl (lv_at hl 3 rfl) ?_
        refine k_abs hc q_X2_27 dX2_putStake_50 hl.1 ⟨Nat.le_of_ble_eq_true rfl, Nat.le_of_ble_eq_true rfl, Nat.le_of_ble_eq_true rfl, Nat.le_of_ble_eq_true rfl⟩ ?_
        refine k_V0 hc [.int (absI o)] cw_X2_23 rfl dX2_putStake_53 (c_X2_putNumber l hlf g _ x (lpS (lnS (lpS (lnS (lpS cs 32) i) 64) j) 43) (absI o) hW) hW.li hM hS hl.1 rfl rfl ⟨Nat.le_of_ble_eq_true rfl, Nat.le_of_ble_eq_true rfl⟩ ⟨Nat.le_of_ble_eq_true rfl, Nat.le_of_ble_eq_true rfl⟩ (Nat.le_of_ble_eq_true rfl) (fun H locs hM hS => ?_)
        have hM := hR.eq hM putC_putC
        have hW := ClsAt.put (g := g) (M := M) (x := x) (cs := (lnS (lpS (lnS (lpS (lnS (lpS cs 32) i) 64) j) 43) (absI o)))
        exact k_vret hc hr dX2_putStake_56 hM hS (Nat.le_of_ble_eq_true rfl) (Nat.le_of_ble_eq_true rfl) (by simp only [lkS, lk2, lk1, eq_false c_4, eq_false c_30, eq_false c_35, not_false_eq_true, not_true_eq_false, and_true, true_and, and_false, false_and, and_self, ↓reduceIte, or_true, true_or, or_self, or_false, false_or]; try rw [putC_same hW])
set_option maxHeartbeats 4000000 in
set_option maxRecDepth 100000 in
theorem c_X2_putWord (l : Launch) (hlf : l.stackTraces = false) (g : GC) (M : HM) (x : Nat) (cs : CS) (i : Nat) (b : List Int32) (hW : ClsAt g M x cs) (hi : lw_by[i]? = some b) (h9 : b.length < 2 ^ 31) : KM g l yX2_putWord cX2_putWord 3 none 5 0 0 [.ref (x + 194), .ref (g.2.2.2.1 i)] M (.inl (none, (putC g M x (lwS b cs b.length)))) := by
  refine k_meth hlf (by decide) (Nat.le_of_ble_eq_true rfl) fun p e s m below meth c ls hc hr hnx hM hS hl => ?_
  have hc : Cx g p l s m [.ref (x + 194), .ref (g.2.2.2.1 i)].toArray meth c cX2_putWord 3 RX2 := hc
  have hx := hc.1
  have hb := hc.2.1
  have hl : lv_has ls 3 [(0, .ref (x + 194)), (1, .ref (g.2.2.2.1 i))] := hl
  refine lv_iconst (v := 0) hx hb dX2_putWord_0 (by decide) ?_
  refine lv_istore_n (lv' := [(2, .int 0), (0, .ref (x + 194)), (1, .ref (g.2.2.2.1 i))]) hx hb dX2_putWord_1 rfl hl (by decide) rfl (fun ls hl => ?_)
  have lp_2 : ∀ (D k : Nat), b.length - k < D → k ≤ b.length → ∀ (ls : Array Slot) (H : Heap) (locs : List Loc), hR g (putC g M x (lwS b cs k)) H → va_S (gA g) s.heap H locs → lv_has ls 3 [(2, .int (nI k)), (0, .ref (x + 194)), (1, .ref (g.2.2.2.1 i))] → W p l e (rmOf 5 0 0) s m [.ref (x + 194), .ref (g.2.2.2.1 i)].toArray below meth c H locs 0 0 (vx_MQ below (KQ g (.inl (none, (putC g M x (lwS b cs b.length))))) (KX g (.inl (none, (putC g M x (lwS b cs b.length))))) [.ref (x + 194), .ref (g.2.2.2.1 i)].toArray s 0 0 (gA g)) (F0 m 2 ls []) := by
    intro D
    induction D with
    | zero => intro k hD; exact absurd hD (Nat.not_lt_zero _)
    | succ D ih_2 =>
      intro k hD hk ls H locs hM hS hl
      have hW := ClsAt.put (g := g) (M := M) (x := x) (cs := (lwS b cs k))
      refine lv_iload_n hx hb dX2_putWord_2 rfl (lv_at hl 0 rfl) ?_
      refine lv_aload_n hx hb dX2_putWord_3 rfl (lv_at hl 2 rfl) ?_
      refine k_VJ hc [] hi cw_X2_33 dX2_putWord_4 (c_J0_length l hlf g _ i b hi h9) hM hS hl.1 rfl rfl ⟨Nat.le_of_ble_eq_true rfl, Nat.le_of_ble_eq_true rfl⟩ ⟨Nat.le_of_ble_eq_true rfl, Nat.le_of_ble_eq_true rfl⟩ (Nat.le_of_ble_eq_true rfl) (fun H locs hM hS => ?_)
      refine lv_icmp_ge (tgt := 25) hx hb dX2_putWord_7 (by decide) (fun c_7 => ?_) (fun c_7 => ?_)
      · skip
        have c_7 := (nI_leI (by omega) (by omega)).mp c_7
        exact k_vret hc hr dX2_putWord_25 hM hS (Nat.le_of_ble_eq_true rfl) (Nat.le_of_ble_eq_true rfl) (by rw [show k = b.length by omega])
      · skip
        have c_7 : ¬ b.length ≤ k := fun h => c_7 ((nI_leI (by omega) (by omega)).mpr h)
        refine lv_aload_n hx hb dX2_putWord_10 rfl (lv_at hl 1 rfl) ?_
        refine lv_aload_n hx hb dX2_putWord_11 rfl (lv_at hl 2 rfl) ?_
        refine lv_iload_n hx hb dX2_putWord_12 rfl (lv_at hl 0 rfl) ?_
        refine k_VJ hc [.int (nI k)] hi cw_X2_38 dX2_putWord_13 (c_J0_charAt l hlf g _ i b k hi h9 (by omega)) hM hS hl.1 rfl rfl ⟨Nat.le_of_ble_eq_true rfl, Nat.le_of_ble_eq_true rfl⟩ ⟨Nat.le_of_ble_eq_true rfl, Nat.le_of_ble_eq_true rfl⟩ (Nat.le_of_ble_eq_true rfl) (fun H locs hM hS => ?_)
        refine k_V0 hc [.int (chI b k)] cw_X2_19 rfl dX2_putWord_16 (c_X2_put l hlf g _ x (lwS b cs k) (chI b k) hW (sc_nar _)) hW.li hM hS hl.1 rfl rfl ⟨Nat.le_of_ble_eq_true rfl, Nat.le_of_ble_eq_true rfl⟩ ⟨Nat.le_of_ble_eq_true rfl, Nat.le_of_ble_eq_true rfl⟩ (Nat.le_of_ble_eq_true rfl) (fun H locs hM hS => ?_)
        have hM := hR.eq hM putC_putC
        have hW := ClsAt.put (g := g) (M := M) (x := x) (cs := (lpS (lwS b cs k) (chI b k)))
        refine lv_iinc (v := (nI (k + 1))) (lv' := [(2, .int (nI (k + 1))), (0, .ref (x + 194)), (1, .ref (g.2.2.2.1 i))]) hx hb dX2_putWord_19 hl (k := 0) rfl (k_inc1 _) (by decide) rfl (fun ls hl => ?_)
        refine lv_goto (tgt := 2) hx hb dX2_putWord_22 (by decide) ?_
        exact ih_2 (k + 1) (by omega) (by omega) ls _ _ hM hS (lv_sub hl [0, 1, 2] rfl)
  have z_2 : 0 = (nI 0) := rfl
  have hl := lv_chg (lv_sub hl [0, 1, 2] rfl) z_2
  have hM : hR g (putC g M x (lwS b cs 0)) _ := hR.eq hM (putC_same hW).symm
  exact lp_2 (b.length + 1) 0 (by omega) (by omega) ls _ _ hM hS (lv_sub hl [0, 1, 2] rfl)
set_option maxHeartbeats 4000000 in
set_option maxRecDepth 100000 in
theorem c_X1_size (l : Launch) (hlf : l.stackTraces = false) (g : GC) (M : HM) (x : Nat) (cs : CS) (hW : ClsAt g M x cs) : KM g l yX1_size cX1_size 1 (some .int) 1 0 0 [.ref (x + 52)] M (.inl (some (.int (cs 11 3 5)), M)) := by
  refine k_meth hlf (by decide) (Nat.le_of_ble_eq_true rfl) fun p e s m below meth c ls hc hr hnx hM hS hl => ?_
  have hc : Cx g p l s m [.ref (x + 52)].toArray meth c cX1_size 1 RX1 := hc
  have hx := hc.1
  have hb := hc.2.1
  have hl : lv_has ls 1 [(0, .ref (x + 52))] := hl
  refine lv_aload_n hx hb dX1_size_0 rfl (lv_at hl 0 rfl) ?_
  refine gt_X1_17 hc dX1_size_1 hM hW.hi rfl ?_
  exact k_iret hc hr dX1_size_4 hM hS (Nat.le_of_ble_eq_true rfl) (Nat.le_of_ble_eq_true rfl) (by rfl)
set_option maxHeartbeats 4000000 in
set_option maxRecDepth 100000 in
theorem c_X1_forget (l : Launch) (hlf : l.stackTraces = false) (g : GC) (M : HM) (x : Nat) (cs : CS) (hW : ClsAt g M x cs) : KM g l yX1_forget cX1_forget 1 none 1 0 0 [.ref (x + 52)] M (.inl (none, (putC g M x (upS cs 5 0)))) := by
  refine k_meth hlf (by decide) (Nat.le_of_ble_eq_true rfl) fun p e s m below meth c ls hc hr hnx hM hS hl => ?_
  have hc : Cx g p l s m [.ref (x + 52)].toArray meth c cX1_forget 1 RX1 := hc
  have hx := hc.1
  have hb := hc.2.1
  have hl : lv_has ls 1 [(0, .ref (x + 52))] := hl
  refine lv_aload_n hx hb dX1_forget_0 rfl (lv_at hl 0 rfl) ?_
  refine lv_iconst (v := 0) hx hb dX1_forget_1 (by decide) ?_
  refine pt_X1_17 hc dX1_forget_2 hM hS hW.hi rfl rfl (Nat.le_of_ble_eq_true rfl) (fun H locs hM hS => ?_)
  have hM := hR.eq hM (putC_hi hW 5 (v := 0) (by decide) hi_s5)
  have hW := ClsAt.put (g := g) (M := M) (x := x) (cs := (upS cs 5 0))
  exact k_vret hc hr dX1_forget_5 hM hS (Nat.le_of_ble_eq_true rfl) (Nat.le_of_ble_eq_true rfl) (by rfl)
set_option maxHeartbeats 4000000 in
set_option maxRecDepth 100000 in
theorem c_X1_slot (l : Launch) (hlf : l.stackTraces = false) (g : GC) (M : HM) (x : Nat) (cs : CS) (i : Int32) (hW : ClsAt g M x cs) (h0 : ¬ i < 0) (h8 : ¬ nI 8 ≤ i) : KM g l yX1_slot cX1_slot 2 (some (.object "MirageSurvey$Flat")) 1 0 0 [.ref (x + 52), .int i] M (.inl (some (.ref (x + 54 + 17 * i.toNatClampNeg)), M)) := by
  refine k_meth hlf (by decide) (Nat.le_of_ble_eq_true rfl) fun p e s m below meth c ls hc hr hnx hM hS hl => ?_
  have hc : Cx g p l s m [.ref (x + 52), .int i].toArray meth c cX1_slot 2 RX1 := hc
  have hx := hc.1
  have hb := hc.2.1
  have hl : lv_has ls 2 [(0, .ref (x + 52)), (1, .int i)] := hl
  refine lv_iload_n hx hb dX1_slot_0 rfl (lv_at hl 1 rfl) ?_
  refine lv_if_lt (tgt := 22) hx hb dX1_slot_1 (by decide) (fun c_1 => ?_) (fun c_1 => ?_)
  · skip
    exact absurd c_1 h0
  · skip
    refine lv_iload_n hx hb dX1_slot_4 rfl (lv_at hl 1 rfl) ?_
    refine lv_aload_n hx hb dX1_slot_5 rfl (lv_at hl 0 rfl) ?_
    refine gt_X1_11 hc dX1_slot_6 hM hW.hi rfl ?_
    refine k_alenF hc hM hW.ka dX1_slot_9 ?_
    refine lv_icmp_ge (tgt := 22) hx hb dX1_slot_10 (by decide) (fun c_10 => ?_) (fun c_10 => ?_)
    · skip
      exact absurd c_10 h8
    · skip
      refine lv_aload_n hx hb dX1_slot_13 rfl (lv_at hl 0 rfl) ?_
      refine gt_X1_11 hc dX1_slot_14 hM hW.hi rfl ?_
      refine lv_iload_n hx hb dX1_slot_17 rfl (lv_at hl 1 rfl) ?_
      refine k_aald hc hM hW.ka (in_of (by decide) h0 h8) dX1_slot_18 ?_
      rw [show va_rf (hiA x i.toNatClampNeg) = .ref (x + 54 + 17 * i.toNatClampNeg) from by unfold hiA; rw [if_pos (nx_lt h0 h8)]; rfl]
      refine lv_goto (tgt := 23) hx hb dX1_slot_19 (by decide) ?_
      exact k_aret hc hr dX1_slot_23 hM hS (Or.inr ⟨_, rfl⟩) (Nat.le_of_ble_eq_true rfl) (Nat.le_of_ble_eq_true rfl) (by rfl)
set_option maxHeartbeats 4000000 in
set_option maxRecDepth 100000 in
theorem c_X1_keep (l : Launch) (hlf : l.stackTraces = false) (g : GC) (M : HM) (x : Nat) (cs : CS) (hW : ClsAt g M x cs) (h0 : ¬ cs 11 3 6 < 0) (h8 : ¬ nI 8 ≤ cs 11 3 6) : KM g l yX1_keep cX1_keep 3 none 5 0 0 [.ref (x + 52), .ref (x + 18)] M (.inl (none, (putC g M x (kpS cs)))) := by
  refine k_meth hlf (by decide) (Nat.le_of_ble_eq_true rfl) fun p e s m below meth c ls hc hr hnx hM hS hl => ?_
  have hc : Cx g p l s m [.ref (x + 52), .ref (x + 18)].toArray meth c cX1_keep 3 RX1 := hc
  have hx := hc.1
  have hb := hc.2.1
  have hl : lv_has ls 3 [(0, .ref (x + 52)), (1, .ref (x + 18))] := hl
  have hI := nx_lt h0 h8
  refine lv_aload_n hx hb dX1_keep_0 rfl (lv_at hl 0 rfl) ?_
  refine lv_aload_n hx hb dX1_keep_1 rfl (lv_at hl 0 rfl) ?_
  refine gt_X1_21 hc dX1_keep_2 hM hW.hi rfl ?_
  refine k_V1 hc [.int (cs 11 3 6)] cw_X1_25 rfl dX1_keep_5 (c_X1_slot l hlf g _ x cs (cs 11 3 6) hW (by assumption) (by assumption)) hW.hi hM hS hl.1 rfl rfl ⟨Nat.le_of_ble_eq_true rfl, Nat.le_of_ble_eq_true rfl⟩ ⟨Nat.le_of_ble_eq_true rfl, Nat.le_of_ble_eq_true rfl⟩ (Nat.le_of_ble_eq_true rfl) (fun H locs hM hS => ?_)
  refine lv_astore_n (lv' := [(2, .ref (x + 54 + 17 * (cs 11 3 6).toNatClampNeg)), (0, .ref (x + 52)), (1, .ref (x + 18))]) hx hb dX1_keep_8 rfl hl (by decide) rfl (fun ls hl => ?_)
  refine lv_aload_n hx hb dX1_keep_9 rfl (lv_at hl 0 rfl) ?_
  refine lv_ifnull hx hb dX1_keep_10 ?_
  refine lv_aload_n hx hb dX1_keep_13 rfl (lv_at hl 0 rfl) ?_
  refine lv_aload_n hx hb dX1_keep_14 rfl (lv_at hl 2 rfl) ?_
  refine k_V0 hc [.ref (x + 18)] cw_X1_29 rfl dX1_keep_15 (c_X0_copyFrom l hlf g _ (x + 54 + 17 * (cs 11 3 6).toNatClampNeg) (x + 18) (cs (3 + (cs 11 3 6).toNatClampNeg)) (cs 1) (hW.flat (k := 3 + (cs 11 3 6).toNatClampNeg) (a := (x + 54 + 17 * (cs 11 3 6).toNatClampNeg)) (by omega) fad_k) (hW.flat (k := 1) (a := x + 18) (by decide) rfl) (by omega)) (hW.flat (k := 3 + (cs 11 3 6).toNatClampNeg) (a := (x + 54 + 17 * (cs 11 3 6).toNatClampNeg)) (by omega) fad_k).o hM hS hl.1 rfl rfl ⟨Nat.le_of_ble_eq_true rfl, Nat.le_of_ble_eq_true rfl⟩ ⟨Nat.le_of_ble_eq_true rfl, Nat.le_of_ble_eq_true rfl⟩ (Nat.le_of_ble_eq_true rfl) (fun H locs hM hS => ?_)
  have hM := hR.eq hM (putC_flat hW (k := 3 + (cs 11 3 6).toNatClampNeg) (by omega) fad_k)
  have hW := ClsAt.put (g := g) (M := M) (x := x) (cs := (upC cs (3 + (cs 11 3 6).toNatClampNeg) (cs 1)))
  refine lv_aload_n hx hb dX1_keep_18 rfl (lv_at hl 1 rfl) ?_
  refine lv_aload_n hx hb dX1_keep_19 rfl (lv_at hl 1 rfl) ?_
  refine gt_X1_21 hc dX1_keep_20 hM hW.hi rfl ?_
  refine lv_iconst (v := 1) hx hb dX1_keep_23 (by decide) ?_
  refine lv_iadd hx hb dX1_keep_24 ?_
  refine lv_bipush (v := 8) hx hb dX1_keep_25 (by decide) ?_
  refine lv_icmp_ge (tgt := 39) hx hb dX1_keep_27 (by decide) (fun c_27 => ?_) (fun c_27 => ?_)
  · skip
    refine lv_iconst (v := 0) hx hb dX1_keep_39 (by decide) ?_
    refine pt_X1_21 hc dX1_keep_40 hM hS hW.hi rfl rfl (Nat.le_of_ble_eq_true rfl) (fun H locs hM hS => ?_)
    have hM := hR.eq hM (putC_hi hW 6 (v := 0) (by decide) hi_s6)
    have hM := hR.eq hM putC_putC
    have hW := ClsAt.put (g := g) (M := M) (x := x) (cs := (upS (upC cs (3 + (cs 11 3 6).toNatClampNeg) (cs 1)) 6 0))
    refine lv_aload_n hx hb dX1_keep_43 rfl (lv_at hl 1 rfl) ?_
    refine lv_bipush (v := 8) hx hb dX1_keep_44 (by decide) ?_
    refine lv_aload_n hx hb dX1_keep_46 rfl (lv_at hl 1 rfl) ?_
    refine gt_X1_17 hc dX1_keep_47 hM hW.hi rfl ?_
    refine lv_iconst (v := 1) hx hb dX1_keep_50 (by decide) ?_
    refine lv_iadd hx hb dX1_keep_51 ?_
    refine k_min hc q_X1_33 dX1_keep_52 hl.1 ⟨Nat.le_of_ble_eq_true rfl, Nat.le_of_ble_eq_true rfl, Nat.le_of_ble_eq_true rfl, Nat.le_of_ble_eq_true rfl⟩ ?_
    refine pt_X1_17 hc dX1_keep_55 hM hS hW.hi rfl rfl (Nat.le_of_ble_eq_true rfl) (fun H locs hM hS => ?_)
    have hM := hR.eq hM (putC_hi hW 5 (v := (minI 8 (((upS (upC cs (3 + (cs 11 3 6).toNatClampNeg) (cs 1)) 6 0) 11 3 5) + 1))) (by decide) hi_s5)
    have hM := hR.eq hM putC_putC
    have hW := ClsAt.put (g := g) (M := M) (x := x) (cs := (upS (upS (upC cs (3 + (cs 11 3 6).toNatClampNeg) (cs 1)) 6 0) 5 (minI 8 (((upS (upC cs (3 + (cs 11 3 6).toNatClampNeg) (cs 1)) 6 0) 11 3 5) + 1))))
    exact k_vret hc hr dX1_keep_58 hM hS (Nat.le_of_ble_eq_true rfl) (Nat.le_of_ble_eq_true rfl) (by simp only [kpS, kpB, kpA, eq_true c_27, not_false_eq_true, not_true_eq_false, and_true, true_and, and_false, false_and, and_self, ↓reduceIte, or_true, true_or, or_self, or_false, false_or]; try rw [putC_same hW])
  · skip
    refine lv_aload_n hx hb dX1_keep_30 rfl (lv_at hl 1 rfl) ?_
    refine gt_X1_21 hc dX1_keep_31 hM hW.hi rfl ?_
    refine lv_iconst (v := 1) hx hb dX1_keep_34 (by decide) ?_
    refine lv_iadd hx hb dX1_keep_35 ?_
    refine lv_goto (tgt := 40) hx hb dX1_keep_36 (by decide) ?_
    refine pt_X1_21 hc dX1_keep_40 hM hS hW.hi rfl rfl (Nat.le_of_ble_eq_true rfl) (fun H locs hM hS => ?_)
    have hM := hR.eq hM (putC_hi hW 6 (v := (((upC cs (3 + (cs 11 3 6).toNatClampNeg) (cs 1)) 11 3 6) + 1)) (by decide) hi_s6)
    have hM := hR.eq hM putC_putC
    have hW := ClsAt.put (g := g) (M := M) (x := x) (cs := (upS (upC cs (3 + (cs 11 3 6).toNatClampNeg) (cs 1)) 6 (((upC cs (3 + (cs 11 3 6).toNatClampNeg) (cs 1)) 11 3 6) + 1)))
    refine lv_aload_n hx hb dX1_keep_43 rfl (lv_at hl 1 rfl) ?_
    refine lv_bipush (v := 8) hx hb dX1_keep_44 (by decide) ?_
    refine lv_aload_n hx hb dX1_keep_46 rfl (lv_at hl 1 rfl) ?_
    refine gt_X1_17 hc dX1_keep_47 hM hW.hi rfl ?_
    refine lv_iconst (v := 1) hx hb dX1_keep_50 (by decide) ?_
    refine lv_iadd hx hb dX1_keep_51 ?_
    refine k_min hc q_X1_33 dX1_keep_52 hl.1 ⟨Nat.le_of_ble_eq_true rfl, Nat.le_of_ble_eq_true rfl, Nat.le_of_ble_eq_true rfl, Nat.le_of_ble_eq_true rfl⟩ ?_
    refine pt_X1_17 hc dX1_keep_55 hM hS hW.hi rfl rfl (Nat.le_of_ble_eq_true rfl) (fun H locs hM hS => ?_)
    have hM := hR.eq hM (putC_hi hW 5 (v := (minI 8 (((upS (upC cs (3 + (cs 11 3 6).toNatClampNeg) (cs 1)) 6 (((upC cs (3 + (cs 11 3 6).toNatClampNeg) (cs 1)) 11 3 6) + 1)) 11 3 5) + 1))) (by decide) hi_s5)
    have hM := hR.eq hM putC_putC
    have hW := ClsAt.put (g := g) (M := M) (x := x) (cs := (upS (upS (upC cs (3 + (cs 11 3 6).toNatClampNeg) (cs 1)) 6 (((upC cs (3 + (cs 11 3 6).toNatClampNeg) (cs 1)) 11 3 6) + 1)) 5 (minI 8 (((upS (upC cs (3 + (cs 11 3 6).toNatClampNeg) (cs 1)) 6 (((upC cs (3 + (cs 11 3 6).toNatClampNeg) (cs 1)) 11 3 6) + 1)) 11 3 5) + 1))))
    exact k_vret hc hr dX1_keep_58 hM hS (Nat.le_of_ble_eq_true rfl) (Nat.le_of_ble_eq_true rfl) (by simp only [kpS, kpB, kpA, eq_false c_27, not_false_eq_true, not_true_eq_false, and_true, true_and, and_false, false_and, and_self, ↓reduceIte, or_true, true_or, or_self, or_false, false_or]; try rw [putC_same hW])
set_option maxHeartbeats 4000000 in
set_option maxRecDepth 100000 in
theorem c_X1_takeBack (l : Launch) (hlf : l.stackTraces = false) (g : GC) (M : HM) (x : Nat) (cs : CS) (hW : ClsAt g M x cs) (hn : nxOk cs) : KM g l yX1_takeBack cX1_takeBack 3 none 5 0 0 [.ref (x + 52), .ref (x + 1)] M (.inl (none, (putC g M x (tbS cs)))) := by
  refine k_meth hlf (by decide) (Nat.le_of_ble_eq_true rfl) fun p e s m below meth c ls hc hr hnx hM hS hl => ?_
  have hc : Cx g p l s m [.ref (x + 52), .ref (x + 1)].toArray meth c cX1_takeBack 3 RX1 := hc
  have hx := hc.1
  have hb := hc.2.1
  have hl : lv_has ls 3 [(0, .ref (x + 52)), (1, .ref (x + 1))] := hl
  refine lv_aload_n hx hb dX1_takeBack_0 rfl (lv_at hl 0 rfl) ?_
  refine lv_aload_n hx hb dX1_takeBack_1 rfl (lv_at hl 0 rfl) ?_
  refine gt_X1_21 hc dX1_takeBack_2 hM hW.hi rfl ?_
  refine lv_if_le (tgt := 17) hx hb dX1_takeBack_5 (by decide) (fun c_5 => ?_) (fun c_5 => ?_)
  · skip
    refine lv_bipush (v := 7) hx hb dX1_takeBack_17 (by decide) ?_
    refine pt_X1_21 hc dX1_takeBack_19 hM hS hW.hi rfl rfl (Nat.le_of_ble_eq_true rfl) (fun H locs hM hS => ?_)
    have hM := hR.eq hM (putC_hi hW 6 (v := 7) (by decide) hi_s6)
    have hW := ClsAt.put (g := g) (M := M) (x := x) (cs := (upS cs 6 7))
    refine lv_aload_n hx hb dX1_takeBack_22 rfl (lv_at hl 0 rfl) ?_
    refine lv_iconst (v := 0) hx hb dX1_takeBack_23 (by decide) ?_
    refine lv_aload_n hx hb dX1_takeBack_24 rfl (lv_at hl 0 rfl) ?_
    refine gt_X1_17 hc dX1_takeBack_25 hM hW.hi rfl ?_
    refine lv_iconst (v := 1) hx hb dX1_takeBack_28 (by decide) ?_
    refine lv_isub hx hb dX1_takeBack_29 ?_
    refine k_max hc q_X1_39 dX1_takeBack_30 hl.1 ⟨Nat.le_of_ble_eq_true rfl, Nat.le_of_ble_eq_true rfl, Nat.le_of_ble_eq_true rfl, Nat.le_of_ble_eq_true rfl⟩ ?_
    refine pt_X1_17 hc dX1_takeBack_33 hM hS hW.hi rfl rfl (Nat.le_of_ble_eq_true rfl) (fun H locs hM hS => ?_)
    have hM := hR.eq hM (putC_hi hW 5 (v := (maxI 0 (((upS cs 6 7) 11 3 5) - 1))) (by decide) hi_s5)
    have hM := hR.eq hM putC_putC
    have hW := ClsAt.put (g := g) (M := M) (x := x) (cs := (upS (upS cs 6 7) 5 (maxI 0 (((upS cs 6 7) 11 3 5) - 1))))
    have hT := tbA_nx hn
    simp only [tbA, eq_true c_5, not_false_eq_true, not_true_eq_false, and_true, true_and, and_false, false_and, and_self, ↓reduceIte, or_true, true_or, or_self, or_false, false_or] at hT
    have hI : ((upS (upS cs 6 7) 5 (maxI 0 (((upS cs 6 7) 11 3 5) - 1))) 11 3 6).toNatClampNeg < 8 := nx_lt hT.1 hT.2
    refine lv_aload_n hx hb dX1_takeBack_36 rfl (lv_at hl 0 rfl) ?_
    refine lv_aload_n hx hb dX1_takeBack_37 rfl (lv_at hl 0 rfl) ?_
    refine gt_X1_21 hc dX1_takeBack_38 hM hW.hi rfl ?_
    refine k_V1 hc [.int ((upS (upS cs 6 7) 5 (maxI 0 (((upS cs 6 7) 11 3 5) - 1))) 11 3 6)] cw_X1_25 rfl dX1_takeBack_41 (c_X1_slot l hlf g _ x (upS (upS cs 6 7) 5 (maxI 0 (((upS cs 6 7) 11 3 5) - 1))) ((upS (upS cs 6 7) 5 (maxI 0 (((upS cs 6 7) 11 3 5) - 1))) 11 3 6) hW hT.1 hT.2) hW.hi hM hS hl.1 rfl rfl ⟨Nat.le_of_ble_eq_true rfl, Nat.le_of_ble_eq_true rfl⟩ ⟨Nat.le_of_ble_eq_true rfl, Nat.le_of_ble_eq_true rfl⟩ (Nat.le_of_ble_eq_true rfl) (fun H locs hM hS => ?_)
    refine lv_astore_n (lv' := [(2, .ref (x + 54 + 17 * ((upS (upS cs 6 7) 5 (maxI 0 (((upS cs 6 7) 11 3 5) - 1))) 11 3 6).toNatClampNeg)), (0, .ref (x + 52)), (1, .ref (x + 1))]) hx hb dX1_takeBack_44 rfl hl (by decide) rfl (fun ls hl => ?_)
    refine lv_aload_n hx hb dX1_takeBack_45 rfl (lv_at hl 0 rfl) ?_
    refine lv_ifnull hx hb dX1_takeBack_46 ?_
    refine lv_aload_n hx hb dX1_takeBack_49 rfl (lv_at hl 2 rfl) ?_
    refine lv_aload_n hx hb dX1_takeBack_50 rfl (lv_at hl 0 rfl) ?_
    refine k_V0 hc [.ref (x + 54 + 17 * ((upS (upS cs 6 7) 5 (maxI 0 (((upS cs 6 7) 11 3 5) - 1))) 11 3 6).toNatClampNeg)] cw_X1_29 rfl dX1_takeBack_51 (c_X0_copyFrom l hlf g _ (x + 1) (x + 54 + 17 * ((upS (upS cs 6 7) 5 (maxI 0 (((upS cs 6 7) 11 3 5) - 1))) 11 3 6).toNatClampNeg) ((upS (upS cs 6 7) 5 (maxI 0 (((upS cs 6 7) 11 3 5) - 1))) 0) ((upS (upS cs 6 7) 5 (maxI 0 (((upS cs 6 7) 11 3 5) - 1))) (3 + ((upS (upS cs 6 7) 5 (maxI 0 (((upS cs 6 7) 11 3 5) - 1))) 11 3 6).toNatClampNeg)) (hW.flat (k := 0) (a := x + 1) (by decide) rfl) (hW.flat (k := 3 + ((upS (upS cs 6 7) 5 (maxI 0 (((upS cs 6 7) 11 3 5) - 1))) 11 3 6).toNatClampNeg) (a := (x + 54 + 17 * ((upS (upS cs 6 7) 5 (maxI 0 (((upS cs 6 7) 11 3 5) - 1))) 11 3 6).toNatClampNeg)) (by omega) fad_k) (by omega)) (hW.flat (k := 0) (a := x + 1) (by decide) rfl).o hM hS hl.1 rfl rfl ⟨Nat.le_of_ble_eq_true rfl, Nat.le_of_ble_eq_true rfl⟩ ⟨Nat.le_of_ble_eq_true rfl, Nat.le_of_ble_eq_true rfl⟩ (Nat.le_of_ble_eq_true rfl) (fun H locs hM hS => ?_)
    have hM := hR.eq hM (putC_flat hW (k := 0) (by decide) rfl)
    have hM := hR.eq hM putC_putC
    have hW := ClsAt.put (g := g) (M := M) (x := x) (cs := (upC (upS (upS cs 6 7) 5 (maxI 0 (((upS cs 6 7) 11 3 5) - 1))) 0 ((upS (upS cs 6 7) 5 (maxI 0 (((upS cs 6 7) 11 3 5) - 1))) (3 + ((upS (upS cs 6 7) 5 (maxI 0 (((upS cs 6 7) 11 3 5) - 1))) 11 3 6).toNatClampNeg))))
    exact k_vret hc hr dX1_takeBack_54 hM hS (Nat.le_of_ble_eq_true rfl) (Nat.le_of_ble_eq_true rfl) (by simp only [tbS, tbB, tbA, eq_true c_5, not_false_eq_true, not_true_eq_false, and_true, true_and, and_false, false_and, and_self, ↓reduceIte, or_true, true_or, or_self, or_false, false_or]; try rw [putC_same hW])
  · skip
    refine lv_aload_n hx hb dX1_takeBack_8 rfl (lv_at hl 0 rfl) ?_
    refine gt_X1_21 hc dX1_takeBack_9 hM hW.hi rfl ?_
    refine lv_iconst (v := 1) hx hb dX1_takeBack_12 (by decide) ?_
    refine lv_isub hx hb dX1_takeBack_13 ?_
    refine lv_goto (tgt := 19) hx hb dX1_takeBack_14 (by decide) ?_
    refine pt_X1_21 hc dX1_takeBack_19 hM hS hW.hi rfl rfl (Nat.le_of_ble_eq_true rfl) (fun H locs hM hS => ?_)
    have hM := hR.eq hM (putC_hi hW 6 (v := ((cs 11 3 6) - 1)) (by decide) hi_s6)
    have hW := ClsAt.put (g := g) (M := M) (x := x) (cs := (upS cs 6 ((cs 11 3 6) - 1)))
    refine lv_aload_n hx hb dX1_takeBack_22 rfl (lv_at hl 0 rfl) ?_
    refine lv_iconst (v := 0) hx hb dX1_takeBack_23 (by decide) ?_
    refine lv_aload_n hx hb dX1_takeBack_24 rfl (lv_at hl 0 rfl) ?_
    refine gt_X1_17 hc dX1_takeBack_25 hM hW.hi rfl ?_
    refine lv_iconst (v := 1) hx hb dX1_takeBack_28 (by decide) ?_
    refine lv_isub hx hb dX1_takeBack_29 ?_
    refine k_max hc q_X1_39 dX1_takeBack_30 hl.1 ⟨Nat.le_of_ble_eq_true rfl, Nat.le_of_ble_eq_true rfl, Nat.le_of_ble_eq_true rfl, Nat.le_of_ble_eq_true rfl⟩ ?_
    refine pt_X1_17 hc dX1_takeBack_33 hM hS hW.hi rfl rfl (Nat.le_of_ble_eq_true rfl) (fun H locs hM hS => ?_)
    have hM := hR.eq hM (putC_hi hW 5 (v := (maxI 0 (((upS cs 6 ((cs 11 3 6) - 1)) 11 3 5) - 1))) (by decide) hi_s5)
    have hM := hR.eq hM putC_putC
    have hW := ClsAt.put (g := g) (M := M) (x := x) (cs := (upS (upS cs 6 ((cs 11 3 6) - 1)) 5 (maxI 0 (((upS cs 6 ((cs 11 3 6) - 1)) 11 3 5) - 1))))
    have hT := tbA_nx hn
    simp only [tbA, eq_false c_5, not_false_eq_true, not_true_eq_false, and_true, true_and, and_false, false_and, and_self, ↓reduceIte, or_true, true_or, or_self, or_false, false_or] at hT
    have hI : ((upS (upS cs 6 ((cs 11 3 6) - 1)) 5 (maxI 0 (((upS cs 6 ((cs 11 3 6) - 1)) 11 3 5) - 1))) 11 3 6).toNatClampNeg < 8 := nx_lt hT.1 hT.2
    refine lv_aload_n hx hb dX1_takeBack_36 rfl (lv_at hl 0 rfl) ?_
    refine lv_aload_n hx hb dX1_takeBack_37 rfl (lv_at hl 0 rfl) ?_
    refine gt_X1_21 hc dX1_takeBack_38 hM hW.hi rfl ?_
    refine k_V1 hc [.int ((upS (upS cs 6 ((cs 11 3 6) - 1)) 5 (maxI 0 (((upS cs 6 ((cs 11 3 6) - 1)) 11 3 5) - 1))) 11 3 6)] cw_X1_25 rfl dX1_takeBack_41 (c_X1_slot l hlf g _ x (upS (upS cs 6 ((cs 11 3 6) - 1)) 5 (maxI 0 (((upS cs 6 ((cs 11 3 6) - 1)) 11 3 5) - 1))) ((upS (upS cs 6 ((cs 11 3 6) - 1)) 5 (maxI 0 (((upS cs 6 ((cs 11 3 6) - 1)) 11 3 5) - 1))) 11 3 6) hW hT.1 hT.2) hW.hi hM hS hl.1 rfl rfl ⟨Nat.le_of_ble_eq_true rfl, Nat.le_of_ble_eq_true rfl⟩ ⟨Nat.le_of_ble_eq_true rfl, Nat.le_of_ble_eq_true rfl⟩ (Nat.le_of_ble_eq_true rfl) (fun H locs hM hS => ?_)
    refine lv_astore_n (lv' := [(2, .ref (x + 54 + 17 * ((upS (upS cs 6 ((cs 11 3 6) - 1)) 5 (maxI 0 (((upS cs 6 ((cs 11 3 6) - 1)) 11 3 5) - 1))) 11 3 6).toNatClampNeg)), (0, .ref (x + 52)), (1, .ref (x + 1))]) hx hb dX1_takeBack_44 rfl hl (by decide) rfl (fun ls hl => ?_)
    refine lv_aload_n hx hb dX1_takeBack_45 rfl (lv_at hl 0 rfl) ?_
    refine lv_ifnull hx hb dX1_takeBack_46 ?_
    refine lv_aload_n hx hb dX1_takeBack_49 rfl (lv_at hl 2 rfl) ?_
    refine lv_aload_n hx hb dX1_takeBack_50 rfl (lv_at hl 0 rfl) ?_
    refine k_V0 hc [.ref (x + 54 + 17 * ((upS (upS cs 6 ((cs 11 3 6) - 1)) 5 (maxI 0 (((upS cs 6 ((cs 11 3 6) - 1)) 11 3 5) - 1))) 11 3 6).toNatClampNeg)] cw_X1_29 rfl dX1_takeBack_51 (c_X0_copyFrom l hlf g _ (x + 1) (x + 54 + 17 * ((upS (upS cs 6 ((cs 11 3 6) - 1)) 5 (maxI 0 (((upS cs 6 ((cs 11 3 6) - 1)) 11 3 5) - 1))) 11 3 6).toNatClampNeg) ((upS (upS cs 6 ((cs 11 3 6) - 1)) 5 (maxI 0 (((upS cs 6 ((cs 11 3 6) - 1)) 11 3 5) - 1))) 0) ((upS (upS cs 6 ((cs 11 3 6) - 1)) 5 (maxI 0 (((upS cs 6 ((cs 11 3 6) - 1)) 11 3 5) - 1))) (3 + ((upS (upS cs 6 ((cs 11 3 6) - 1)) 5 (maxI 0 (((upS cs 6 ((cs 11 3 6) - 1)) 11 3 5) - 1))) 11 3 6).toNatClampNeg)) (hW.flat (k := 0) (a := x + 1) (by decide) rfl) (hW.flat (k := 3 + ((upS (upS cs 6 ((cs 11 3 6) - 1)) 5 (maxI 0 (((upS cs 6 ((cs 11 3 6) - 1)) 11 3 5) - 1))) 11 3 6).toNatClampNeg) (a := (x + 54 + 17 * ((upS (upS cs 6 ((cs 11 3 6) - 1)) 5 (maxI 0 (((upS cs 6 ((cs 11 3 6) - 1)) 11 3 5) - 1))) 11 3 6).toNatClampNeg)) (by omega) fad_k) (by omega)) (hW.flat (k := 0) (a := x + 1) (by decide) rfl).o hM hS hl.1 rfl rfl ⟨Nat.le_of_ble_eq_true rfl, Nat.le_of_ble_eq_true rfl⟩ ⟨Nat.le_of_ble_eq_true rfl, Nat.le_of_ble_eq_true rfl⟩ (Nat.le_of_ble_eq_true rfl) (fun H locs hM hS => ?_)
    have hM := hR.eq hM (putC_flat hW (k := 0) (by decide) rfl)
    have hM := hR.eq hM putC_putC
    have hW := ClsAt.put (g := g) (M := M) (x := x) (cs := (upC (upS (upS cs 6 ((cs 11 3 6) - 1)) 5 (maxI 0 (((upS cs 6 ((cs 11 3 6) - 1)) 11 3 5) - 1))) 0 ((upS (upS cs 6 ((cs 11 3 6) - 1)) 5 (maxI 0 (((upS cs 6 ((cs 11 3 6) - 1)) 11 3 5) - 1))) (3 + ((upS (upS cs 6 ((cs 11 3 6) - 1)) 5 (maxI 0 (((upS cs 6 ((cs 11 3 6) - 1)) 11 3 5) - 1))) 11 3 6).toNatClampNeg))))
    exact k_vret hc hr dX1_takeBack_54 hM hS (Nat.le_of_ble_eq_true rfl) (Nat.le_of_ble_eq_true rfl) (by simp only [tbS, tbB, tbA, eq_false c_5, not_false_eq_true, not_true_eq_false, and_true, true_and, and_false, false_and, and_self, ↓reduceIte, or_true, true_or, or_self, or_false, false_or]; try rw [putC_same hW])
