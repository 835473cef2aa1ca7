/-! the questions -/
set_option maxHeartbeats 4000000 in
set_option maxRecDepth 100000 in
theorem c_X5_needStake (l : Launch) (hlf : l.stackTraces = false) (g : GC) (M : HM) (x : Nat) (cs : CS) (i : Int32) (hW : ClsAt g M x cs) : KM g l yX5_needStake cX5_needStake 2 none 6 1 6 [.ref x, .int i] M (if rin 10 (cs 0 8 0) i then .inl (none, M) else .inr ("java/lang/IndexOutOfBoundsException", M)) := by
  refine k_meth hlf (by decide) (Nat.le_of_ble_eq_true rfl) fun p e s m below meth c ls hc hr hnx hM hS hl => ?_
  have hc : Cx g p l s m [.ref x, .int i].toArray meth c cX5_needStake 2 RX5 := hc
  have hx := hc.1
  have hb := hc.2.1
  have hl : lv_has ls 2 [(0, .ref x), (1, .int i)] := hl
  refine lv_aload_n hx hb dX5_needStake_0 rfl (lv_at hl 0 rfl) ?_
  refine gt_X5_10 hc dX5_needStake_1 hM hW.o rfl ?_
  refine gt_X5_116 hc dX5_needStake_4 hM (hW.flat (k := 0) (a := x + 1) (by decide) rfl).o rfl ?_
  refine lv_iload_n hx hb dX5_needStake_7 rfl (lv_at hl 1 rfl) ?_
  refine k_V1 hc [.int i] cw_X5_362 rfl dX5_needStake_8 (c_X3_has l hlf g _ (x + 2) 10 (cs 0 8 0) (cs 0 0) i ((hW.flat (k := 0) (a := x + 1) (by decide) rfl).row (k := 0) (r := x + 2) (by decide) rfl rfl)) ((hW.flat (k := 0) (a := x + 1) (by decide) rfl).row (k := 0) (r := x + 2) (by decide) rfl rfl).1 hM hS hl.1 rfl rfl ⟨Nat.le_of_ble_eq_true rfl, Nat.le_of_ble_eq_true rfl⟩ ⟨Nat.le_of_ble_eq_true rfl, Nat.le_of_ble_eq_true rfl⟩ (Nat.le_of_ble_eq_true rfl) (fun H locs hM hS => ?_)
  refine lv_if_ne (tgt := 25) hx hb dX5_needStake_11 (by decide) (fun c_11 => ?_) (fun c_11 => ?_)
  · skip
    have c_11 := bI_ne.mp c_11
    exact k_vret hc hr dX5_needStake_25 hM hS (Nat.le_of_ble_eq_true rfl) (Nat.le_of_ble_eq_true rfl) (by simp only [eq_true c_11, not_false_eq_true, not_true_eq_false, and_true, true_and, and_false, false_and, and_self, ↓reduceIte, or_true, true_or, or_self, or_false, false_or])
  · skip
    have c_11 := bI_eq.mp c_11
    exact k_throwW hc hnx th_IndexOutOfBoundsException 11 tx_11 hM hS hl.1 dX5_needStake_14 dX5_needStake_17 dX5_needStake_18 dX5_needStake_21 dX5_needStake_24 ⟨Nat.le_of_ble_eq_true rfl, Nat.le_of_ble_eq_true rfl, Nat.le_of_ble_eq_true rfl, Nat.le_of_ble_eq_true rfl⟩ (Nat.le_of_ble_eq_true rfl) (Nat.le_of_ble_eq_true rfl) (by simp only [eq_false c_11, not_false_eq_true, not_true_eq_false, and_true, true_and, and_false, false_and, and_self, ↓reduceIte, or_true, true_or, or_self, or_false, false_or])
set_option maxHeartbeats 4000000 in
set_option maxRecDepth 100000 in
theorem c_X5_needPost (l : Launch) (hlf : l.stackTraces = false) (g : GC) (M : HM) (x : Nat) (cs : CS) (i : Int32) (hW : ClsAt g M x cs) : KM g l yX5_needPost cX5_needPost 2 none 6 1 6 [.ref x, .int i] M (if rin 4 (cs 0 8 1) i then .inl (none, M) else .inr ("java/lang/IndexOutOfBoundsException", M)) := by
  refine k_meth hlf (by decide) (Nat.le_of_ble_eq_true rfl) fun p e s m below meth c ls hc hr hnx hM hS hl => ?_
  have hc : Cx g p l s m [.ref x, .int i].toArray meth c cX5_needPost 2 RX5 := hc
  have hx := hc.1
  have hb := hc.2.1
  have hl : lv_has ls 2 [(0, .ref x), (1, .int i)] := hl
  refine lv_aload_n hx hb dX5_needPost_0 rfl (lv_at hl 0 rfl) ?_
  refine gt_X5_10 hc dX5_needPost_1 hM hW.o rfl ?_
  refine gt_X5_131 hc dX5_needPost_4 hM (hW.flat (k := 0) (a := x + 1) (by decide) rfl).o rfl ?_
  refine lv_iload_n hx hb dX5_needPost_7 rfl (lv_at hl 1 rfl) ?_
  refine k_V1 hc [.int i] cw_X5_362 rfl dX5_needPost_8 (c_X3_has l hlf g _ (x + 4) 4 (cs 0 8 1) (cs 0 1) i ((hW.flat (k := 0) (a := x + 1) (by decide) rfl).row (k := 1) (r := x + 4) (by decide) rfl rfl)) ((hW.flat (k := 0) (a := x + 1) (by decide) rfl).row (k := 1) (r := x + 4) (by decide) rfl rfl).1 hM hS hl.1 rfl rfl ⟨Nat.le_of_ble_eq_true rfl, Nat.le_of_ble_eq_true rfl⟩ ⟨Nat.le_of_ble_eq_true rfl, Nat.le_of_ble_eq_true rfl⟩ (Nat.le_of_ble_eq_true rfl) (fun H locs hM hS => ?_)
  refine lv_if_ne (tgt := 25) hx hb dX5_needPost_11 (by decide) (fun c_11 => ?_) (fun c_11 => ?_)
  · skip
    have c_11 := bI_ne.mp c_11
    exact k_vret hc hr dX5_needPost_25 hM hS (Nat.le_of_ble_eq_true rfl) (Nat.le_of_ble_eq_true rfl) (by simp only [eq_true c_11, not_false_eq_true, not_true_eq_false, and_true, true_and, and_false, false_and, and_self, ↓reduceIte, or_true, true_or, or_self, or_false, false_or])
  · skip
    have c_11 := bI_eq.mp c_11
    exact k_throwW hc hnx th_IndexOutOfBoundsException 12 tx_12 hM hS hl.1 dX5_needPost_14 dX5_needPost_17 dX5_needPost_18 dX5_needPost_21 dX5_needPost_24 ⟨Nat.le_of_ble_eq_true rfl, Nat.le_of_ble_eq_true rfl, Nat.le_of_ble_eq_true rfl, Nat.le_of_ble_eq_true rfl⟩ (Nat.le_of_ble_eq_true rfl) (Nat.le_of_ble_eq_true rfl) (by simp only [eq_false c_11, not_false_eq_true, not_true_eq_false, and_true, true_and, and_false, false_and, and_self, ↓reduceIte, or_true, true_or, or_self, or_false, false_or])
set_option maxHeartbeats 4000000 in
set_option maxRecDepth 100000 in
theorem c_X5_needSheet (l : Launch) (hlf : l.stackTraces = false) (g : GC) (M : HM) (x : Nat) (cs : CS) (i : Int32) (hW : ClsAt g M x cs) : KM g l yX5_needSheet cX5_needSheet 2 none 6 1 6 [.ref x, .int i] M (if hasSh (cs 0) i then .inl (none, M) else .inr ("java/lang/IndexOutOfBoundsException", M)) := by
  refine k_meth hlf (by decide) (Nat.le_of_ble_eq_true rfl) fun p e s m below meth c ls hc hr hnx hM hS hl => ?_
  have hc : Cx g p l s m [.ref x, .int i].toArray meth c cX5_needSheet 2 RX5 := hc
  have hx := hc.1
  have hb := hc.2.1
  have hl : lv_has ls 2 [(0, .ref x), (1, .int i)] := hl
  refine lv_aload_n hx hb dX5_needSheet_0 rfl (lv_at hl 0 rfl) ?_
  refine gt_X5_10 hc dX5_needSheet_1 hM hW.o rfl ?_
  refine lv_iload_n hx hb dX5_needSheet_4 rfl (lv_at hl 1 rfl) ?_
  refine k_V1 hc [.int i] cw_X5_365 rfl dX5_needSheet_5 (c_X0_hasSheet l hlf g _ (x + 1) (cs 0) i (hW.flat (k := 0) (a := x + 1) (by decide) rfl)) (hW.flat (k := 0) (a := x + 1) (by decide) rfl).o hM hS hl.1 rfl rfl ⟨Nat.le_of_ble_eq_true rfl, Nat.le_of_ble_eq_true rfl⟩ ⟨Nat.le_of_ble_eq_true rfl, Nat.le_of_ble_eq_true rfl⟩ (Nat.le_of_ble_eq_true rfl) (fun H locs hM hS => ?_)
  refine lv_if_ne (tgt := 22) hx hb dX5_needSheet_8 (by decide) (fun c_8 => ?_) (fun c_8 => ?_)
  · skip
    have c_8 := bI_ne.mp c_8
    exact k_vret hc hr dX5_needSheet_22 hM hS (Nat.le_of_ble_eq_true rfl) (Nat.le_of_ble_eq_true rfl) (by simp only [eq_true c_8, not_false_eq_true, not_true_eq_false, and_true, true_and, and_false, false_and, and_self, ↓reduceIte, or_true, true_or, or_self, or_false, false_or])
  · skip
    have c_8 := bI_eq.mp c_8
    exact k_throwW hc hnx th_IndexOutOfBoundsException 15 tx_15 hM hS hl.1 dX5_needSheet_11 dX5_needSheet_14 dX5_needSheet_15 dX5_needSheet_18 dX5_needSheet_21 ⟨Nat.le_of_ble_eq_true rfl, Nat.le_of_ble_eq_true rfl, Nat.le_of_ble_eq_true rfl, Nat.le_of_ble_eq_true rfl⟩ (Nat.le_of_ble_eq_true rfl) (Nat.le_of_ble_eq_true rfl) (by simp only [eq_false c_8, not_false_eq_true, not_true_eq_false, and_true, true_and, and_false, false_and, and_self, ↓reduceIte, or_true, true_or, or_self, or_false, false_or])
set_option maxHeartbeats 4000000 in
set_option maxRecDepth 100000 in
theorem c_X5_needCamel (l : Launch) (hlf : l.stackTraces = false) (g : GC) (M : HM) (x : Nat) (cs : CS) (i : Int32) (hW : ClsAt g M x cs) : KM g l yX5_needCamel cX5_needCamel 2 none 6 1 6 [.ref x, .int i] M (if rin 6 (cs 0 8 4) i then .inl (none, M) else .inr ("java/lang/IndexOutOfBoundsException", M)) := by
  refine k_meth hlf (by decide) (Nat.le_of_ble_eq_true rfl) fun p e s m below meth c ls hc hr hnx hM hS hl => ?_
  have hc : Cx g p l s m [.ref x, .int i].toArray meth c cX5_needCamel 2 RX5 := hc
  have hx := hc.1
  have hb := hc.2.1
  have hl : lv_has ls 2 [(0, .ref x), (1, .int i)] := hl
  refine lv_aload_n hx hb dX5_needCamel_0 rfl (lv_at hl 0 rfl) ?_
  refine gt_X5_10 hc dX5_needCamel_1 hM hW.o rfl ?_
  refine gt_X5_137 hc dX5_needCamel_4 hM (hW.flat (k := 0) (a := x + 1) (by decide) rfl).o rfl ?_
  refine lv_iload_n hx hb dX5_needCamel_7 rfl (lv_at hl 1 rfl) ?_
  refine k_V1 hc [.int i] cw_X5_362 rfl dX5_needCamel_8 (c_X3_has l hlf g _ (x + 10) 6 (cs 0 8 4) (cs 0 4) i ((hW.flat (k := 0) (a := x + 1) (by decide) rfl).row (k := 4) (r := x + 10) (by decide) rfl rfl)) ((hW.flat (k := 0) (a := x + 1) (by decide) rfl).row (k := 4) (r := x + 10) (by decide) rfl rfl).1 hM hS hl.1 rfl rfl ⟨Nat.le_of_ble_eq_true rfl, Nat.le_of_ble_eq_true rfl⟩ ⟨Nat.le_of_ble_eq_true rfl, Nat.le_of_ble_eq_true rfl⟩ (Nat.le_of_ble_eq_true rfl) (fun H locs hM hS => ?_)
  refine lv_if_ne (tgt := 25) hx hb dX5_needCamel_11 (by decide) (fun c_11 => ?_) (fun c_11 => ?_)
  · skip
    have c_11 := bI_ne.mp c_11
    exact k_vret hc hr dX5_needCamel_25 hM hS (Nat.le_of_ble_eq_true rfl) (Nat.le_of_ble_eq_true rfl) (by simp only [eq_true c_11, not_false_eq_true, not_true_eq_false, and_true, true_and, and_false, false_and, and_self, ↓reduceIte, or_true, true_or, or_self, or_false, false_or])
  · skip
    have c_11 := bI_eq.mp c_11
    exact k_throwW hc hnx th_IndexOutOfBoundsException 13 tx_13 hM hS hl.1 dX5_needCamel_14 dX5_needCamel_17 dX5_needCamel_18 dX5_needCamel_21 dX5_needCamel_24 ⟨Nat.le_of_ble_eq_true rfl, Nat.le_of_ble_eq_true rfl, Nat.le_of_ble_eq_true rfl, Nat.le_of_ble_eq_true rfl⟩ (Nat.le_of_ble_eq_true rfl) (Nat.le_of_ble_eq_true rfl) (by simp only [eq_false c_11, not_false_eq_true, not_true_eq_false, and_true, true_and, and_false, false_and, and_self, ↓reduceIte, or_true, true_or, or_self, or_false, false_or])
set_option maxHeartbeats 4000000 in
set_option maxRecDepth 100000 in
theorem c_X5_stakeAt (l : Launch) (hlf : l.stackTraces = false) (g : GC) (M : HM) (x : Nat) (cs : CS) (i : Int32) (hW : ClsAt g M x cs) : KM g l yX5_stakeAt cX5_stakeAt 2 (some .int) 7 3 18 [.ref x, .int i] M (if rin 10 (cs 0 8 0) i then .inl (some (.int (gS (cs 0) i)), M) else .inr ("java/lang/IndexOutOfBoundsException", M)) := by
  refine k_meth hlf (by decide) (Nat.le_of_ble_eq_true rfl) fun p e s m below meth c ls hc hr hnx hM hS hl => ?_
  have hc : Cx g p l s m [.ref x, .int i].toArray meth c cX5_stakeAt 2 RX5 := hc
  have hx := hc.1
  have hb := hc.2.1
  have hl : lv_has ls 2 [(0, .ref x), (1, .int i)] := hl
  refine lv_aload_n hx hb dX5_stakeAt_0 rfl (lv_at hl 0 rfl) ?_
  refine lv_iload_n hx hb dX5_stakeAt_1 rfl (lv_at hl 1 rfl) ?_
  by_cases q_2_0 : rin 10 (cs 0 8 0) i
  rotate_left 1
  · skip
    have hK := c_X5_needStake l hlf g _ x cs i hW
    rw [if_neg q_2_0] at hK
    refine k_VX hc [.int i] cw_X5_112 rfl dX5_stakeAt_2 hK hW.o hM hS hl.1 rfl rfl ⟨Nat.le_of_ble_eq_true rfl, Nat.le_of_ble_eq_true rfl⟩ ⟨Nat.le_of_ble_eq_true rfl, Nat.le_of_ble_eq_true rfl⟩ (Nat.le_of_ble_eq_true rfl) (fun H locs q9 ce hM hS h1 h2 h3 => ?_)
    exact k_out hc hnx hM hS (Nat.le_of_ble_eq_true rfl) (Nat.le_of_ble_eq_true rfl) h1 h2 h3 (by first | (simp only [eq_false q_2_0, not_false_eq_true, not_true_eq_false, and_true, true_and, and_false, false_and, and_self, ↓reduceIte, or_true, true_or, or_self, or_false, false_or]; done) | (simp only [eq_false q_2_0, not_false_eq_true, not_true_eq_false, and_true, true_and, and_false, false_and, and_self, ↓reduceIte, or_true, true_or, or_self, or_false, false_or]; rfl))
  have hK := c_X5_needStake l hlf g _ x cs i hW
  rw [if_pos q_2_0] at hK
  refine k_V0 hc [.int i] cw_X5_112 rfl dX5_stakeAt_2 hK hW.o hM hS hl.1 rfl rfl ⟨Nat.le_of_ble_eq_true rfl, Nat.le_of_ble_eq_true rfl⟩ ⟨Nat.le_of_ble_eq_true rfl, Nat.le_of_ble_eq_true rfl⟩ (Nat.le_of_ble_eq_true rfl) (fun H locs hM hS => ?_)
  refine lv_aload_n hx hb dX5_stakeAt_5 rfl (lv_at hl 0 rfl) ?_
  refine gt_X5_10 hc dX5_stakeAt_6 hM hW.o rfl ?_
  refine gt_X5_116 hc dX5_stakeAt_9 hM (hW.flat (k := 0) (a := x + 1) (by decide) rfl).o rfl ?_
  refine lv_iload_n hx hb dX5_stakeAt_12 rfl (lv_at hl 1 rfl) ?_
  refine k_V1 hc [.int i] cw_X5_120 rfl dX5_stakeAt_13 (c_X3_get l hlf g _ (x + 2) 10 (cs 0 8 0) (cs 0 0) i ((hW.flat (k := 0) (a := x + 1) (by decide) rfl).row (k := 0) (r := x + 2) (by decide) rfl rfl) (by decide)) ((hW.flat (k := 0) (a := x + 1) (by decide) rfl).row (k := 0) (r := x + 2) (by decide) rfl rfl).1 hM hS hl.1 rfl rfl ⟨Nat.le_of_ble_eq_true rfl, Nat.le_of_ble_eq_true rfl⟩ ⟨Nat.le_of_ble_eq_true rfl, Nat.le_of_ble_eq_true rfl⟩ (Nat.le_of_ble_eq_true rfl) (fun H locs hM hS => ?_)
  exact k_iret hc hr dX5_stakeAt_16 hM hS (Nat.le_of_ble_eq_true rfl) (Nat.le_of_ble_eq_true rfl) (by first | (simp only [eq_true q_2_0, not_false_eq_true, not_true_eq_false, and_true, true_and, and_false, false_and, and_self, ↓reduceIte, or_true, true_or, or_self, or_false, false_or]; done) | (simp only [eq_true q_2_0, not_false_eq_true, not_true_eq_false, and_true, true_and, and_false, false_and, and_self, ↓reduceIte, or_true, true_or, or_self, or_false, false_or]; rfl))
set_option maxHeartbeats 4000000 in
set_option maxRecDepth 100000 in
theorem c_X5_postOf (l : Launch) (hlf : l.stackTraces = false) (g : GC) (M : HM) (x : Nat) (cs : CS) (i : Int32) (o : Int32) (hW : ClsAt g M x cs) : KM g l yX5_postOf cX5_postOf 3 (some .int) 7 3 18 [.ref x, .int i, .int o] M (if rin 4 (cs 0 8 1) i then .inl (some (.int (if o = 0 then gP (cs 0) i else gH (cs 0) i)), M) else .inr ("java/lang/IndexOutOfBoundsException", M)) := by
  refine k_meth hlf (by decide) (Nat.le_of_ble_eq_true rfl) fun p e s m below meth c ls hc hr hnx hM hS hl => ?_
  have hc : Cx g p l s m [.ref x, .int i, .int o].toArray meth c cX5_postOf 3 RX5 := hc
  have hx := hc.1
  have hb := hc.2.1
  have hl : lv_has ls 3 [(0, .ref x), (1, .int i), (2, .int o)] := hl
  refine lv_aload_n hx hb dX5_postOf_0 rfl (lv_at hl 0 rfl) ?_
  refine lv_iload_n hx hb dX5_postOf_1 rfl (lv_at hl 1 rfl) ?_
  by_cases q_2_0 : rin 4 (cs 0 8 1) i
  rotate_left 1
  · skip
    have hK := c_X5_needPost l hlf g _ x cs i hW
    rw [if_neg q_2_0] at hK
    refine k_VX hc [.int i] cw_X5_125 rfl dX5_postOf_2 hK hW.o hM hS hl.1 rfl rfl ⟨Nat.le_of_ble_eq_true rfl, Nat.le_of_ble_eq_true rfl⟩ ⟨Nat.le_of_ble_eq_true rfl, Nat.le_of_ble_eq_true rfl⟩ (Nat.le_of_ble_eq_true rfl) (fun H locs q9 ce hM hS h1 h2 h3 => ?_)
    exact k_out hc hnx hM hS (Nat.le_of_ble_eq_true rfl) (Nat.le_of_ble_eq_true rfl) h1 h2 h3 (by first | (simp only [eq_false q_2_0, not_false_eq_true, not_true_eq_false, and_true, true_and, and_false, false_and, and_self, ↓reduceIte, or_true, true_or, or_self, or_false, false_or]; done) | (simp only [eq_false q_2_0, not_false_eq_true, not_true_eq_false, and_true, true_and, and_false, false_and, and_self, ↓reduceIte, or_true, true_or, or_self, or_false, false_or]; rfl))
  have hK := c_X5_needPost l hlf g _ x cs i hW
  rw [if_pos q_2_0] at hK
  refine k_V0 hc [.int i] cw_X5_125 rfl dX5_postOf_2 hK hW.o hM hS hl.1 rfl rfl ⟨Nat.le_of_ble_eq_true rfl, Nat.le_of_ble_eq_true rfl⟩ ⟨Nat.le_of_ble_eq_true rfl, Nat.le_of_ble_eq_true rfl⟩ (Nat.le_of_ble_eq_true rfl) (fun H locs hM hS => ?_)
  refine lv_iload_n hx hb dX5_postOf_5 rfl (lv_at hl 2 rfl) ?_
  refine lv_if_eq (tgt := 23) hx hb dX5_postOf_6 (by decide) (fun c_6 => ?_) (fun c_6 => ?_)
  · skip
    refine lv_aload_n hx hb dX5_postOf_23 rfl (lv_at hl 0 rfl) ?_
    refine gt_X5_10 hc dX5_postOf_24 hM hW.o rfl ?_
    refine gt_X5_131 hc dX5_postOf_27 hM (hW.flat (k := 0) (a := x + 1) (by decide) rfl).o rfl ?_
    refine lv_iload_n hx hb dX5_postOf_30 rfl (lv_at hl 1 rfl) ?_
    refine k_V1 hc [.int i] cw_X5_120 rfl dX5_postOf_31 (c_X3_get l hlf g _ (x + 4) 4 (cs 0 8 1) (cs 0 1) i ((hW.flat (k := 0) (a := x + 1) (by decide) rfl).row (k := 1) (r := x + 4) (by decide) rfl rfl) (by decide)) ((hW.flat (k := 0) (a := x + 1) (by decide) rfl).row (k := 1) (r := x + 4) (by decide) rfl rfl).1 hM hS hl.1 rfl rfl ⟨Nat.le_of_ble_eq_true rfl, Nat.le_of_ble_eq_true rfl⟩ ⟨Nat.le_of_ble_eq_true rfl, Nat.le_of_ble_eq_true rfl⟩ (Nat.le_of_ble_eq_true rfl) (fun H locs hM hS => ?_)
    exact k_iret hc hr dX5_postOf_34 hM hS (Nat.le_of_ble_eq_true rfl) (Nat.le_of_ble_eq_true rfl) (by first | (simp only [eq_true q_2_0, eq_true c_6, not_false_eq_true, not_true_eq_false, and_true, true_and, and_false, false_and, and_self, ↓reduceIte, or_true, true_or, or_self, or_false, false_or]; done) | (simp only [eq_true q_2_0, eq_true c_6, not_false_eq_true, not_true_eq_false, and_true, true_and, and_false, false_and, and_self, ↓reduceIte, or_true, true_or, or_self, or_false, false_or]; rfl))
  · skip
    refine lv_aload_n hx hb dX5_postOf_9 rfl (lv_at hl 0 rfl) ?_
    refine gt_X5_10 hc dX5_postOf_10 hM hW.o rfl ?_
    refine gt_X5_128 hc dX5_postOf_13 hM (hW.flat (k := 0) (a := x + 1) (by decide) rfl).o rfl ?_
    refine lv_iload_n hx hb dX5_postOf_16 rfl (lv_at hl 1 rfl) ?_
    refine k_V1 hc [.int i] cw_X5_120 rfl dX5_postOf_17 (c_X3_get l hlf g _ (x + 6) 4 (cs 0 8 2) (cs 0 2) i ((hW.flat (k := 0) (a := x + 1) (by decide) rfl).row (k := 2) (r := x + 6) (by decide) rfl rfl) (by decide)) ((hW.flat (k := 0) (a := x + 1) (by decide) rfl).row (k := 2) (r := x + 6) (by decide) rfl rfl).1 hM hS hl.1 rfl rfl ⟨Nat.le_of_ble_eq_true rfl, Nat.le_of_ble_eq_true rfl⟩ ⟨Nat.le_of_ble_eq_true rfl, Nat.le_of_ble_eq_true rfl⟩ (Nat.le_of_ble_eq_true rfl) (fun H locs hM hS => ?_)
    refine lv_goto (tgt := 34) hx hb dX5_postOf_20 (by decide) ?_
    exact k_iret hc hr dX5_postOf_34 hM hS (Nat.le_of_ble_eq_true rfl) (Nat.le_of_ble_eq_true rfl) (by first | (simp only [eq_true q_2_0, eq_false c_6, not_false_eq_true, not_true_eq_false, and_true, true_and, and_false, false_and, and_self, ↓reduceIte, or_true, true_or, or_self, or_false, false_or]; done) | (simp only [eq_true q_2_0, eq_false c_6, not_false_eq_true, not_true_eq_false, and_true, true_and, and_false, false_and, and_self, ↓reduceIte, or_true, true_or, or_self, or_false, false_or]; rfl))
set_option maxHeartbeats 4000000 in
set_option maxRecDepth 100000 in
theorem c_X5_camelOf (l : Launch) (hlf : l.stackTraces = false) (g : GC) (M : HM) (x : Nat) (cs : CS) (i : Int32) (w : Int32) (hW : ClsAt g M x cs) : KM g l yX5_camelOf cX5_camelOf 3 (some .int) 7 3 18 [.ref x, .int i, .int w] M (if rin 6 (cs 0 8 4) i then if cmOk w then .inl (some (.int (cmV (cs 0) i w)), M) else .inr ("java/lang/IllegalArgumentException", M) else .inr ("java/lang/IndexOutOfBoundsException", M)) := by
  refine k_meth hlf (by decide) (Nat.le_of_ble_eq_true rfl) fun p e s m below meth c ls hc hr hnx hM hS hl => ?_
  have hc : Cx g p l s m [.ref x, .int i, .int w].toArray meth c cX5_camelOf 3 RX5 := hc
  have hx := hc.1
  have hb := hc.2.1
  have hl : lv_has ls 3 [(0, .ref x), (1, .int i), (2, .int w)] := hl
  refine lv_aload_n hx hb dX5_camelOf_0 rfl (lv_at hl 0 rfl) ?_
  refine lv_iload_n hx hb dX5_camelOf_1 rfl (lv_at hl 1 rfl) ?_
  by_cases q_2_0 : rin 6 (cs 0 8 4) i
  rotate_left 1
  · skip
    have hK := c_X5_needCamel l hlf g _ x cs i hW
    rw [if_neg q_2_0] at hK
    refine k_VX hc [.int i] cw_X5_134 rfl dX5_camelOf_2 hK hW.o hM hS hl.1 rfl rfl ⟨Nat.le_of_ble_eq_true rfl, Nat.le_of_ble_eq_true rfl⟩ ⟨Nat.le_of_ble_eq_true rfl, Nat.le_of_ble_eq_true rfl⟩ (Nat.le_of_ble_eq_true rfl) (fun H locs q9 ce hM hS h1 h2 h3 => ?_)
    exact k_out hc hnx hM hS (Nat.le_of_ble_eq_true rfl) (Nat.le_of_ble_eq_true rfl) h1 h2 h3 (by first | (simp only [cmV, cmOk, eq_false q_2_0, not_false_eq_true, not_true_eq_false, and_true, true_and, and_false, false_and, and_self, ↓reduceIte, or_true, true_or, or_self, or_false, false_or]; done) | (simp only [cmV, cmOk, eq_false q_2_0, not_false_eq_true, not_true_eq_false, and_true, true_and, and_false, false_and, and_self, ↓reduceIte, or_true, true_or, or_self, or_false, false_or]; rfl))
  have hK := c_X5_needCamel l hlf g _ x cs i hW
  rw [if_pos q_2_0] at hK
  refine k_V0 hc [.int i] cw_X5_134 rfl dX5_camelOf_2 hK hW.o hM hS hl.1 rfl rfl ⟨Nat.le_of_ble_eq_true rfl, Nat.le_of_ble_eq_true rfl⟩ ⟨Nat.le_of_ble_eq_true rfl, Nat.le_of_ble_eq_true rfl⟩ (Nat.le_of_ble_eq_true rfl) (fun H locs hM hS => ?_)
  refine lv_iload_n hx hb dX5_camelOf_5 rfl (lv_at hl 2 rfl) ?_
  by_cases c_6_0 : w = 0
  · skip
    have e_6 : w.toInt = 0 := by rw [c_6_0]; rfl
    refine lv_tableIn (tgt := 40) hx hb dX5_camelOf_6 (by rw [e_6]; decide) (by rw [e_6]; decide) (by rw [e_6]; rfl) (by decide) ?_
    refine lv_aload_n hx hb dX5_camelOf_40 rfl (lv_at hl 0 rfl) ?_
    refine gt_X5_10 hc dX5_camelOf_41 hM hW.o rfl ?_
    refine gt_X5_137 hc dX5_camelOf_44 hM (hW.flat (k := 0) (a := x + 1) (by decide) rfl).o rfl ?_
    refine lv_iload_n hx hb dX5_camelOf_47 rfl (lv_at hl 1 rfl) ?_
    refine k_V1 hc [.int i] cw_X5_120 rfl dX5_camelOf_48 (c_X3_get l hlf g _ (x + 10) 6 (cs 0 8 4) (cs 0 4) i ((hW.flat (k := 0) (a := x + 1) (by decide) rfl).row (k := 4) (r := x + 10) (by decide) rfl rfl) (by decide)) ((hW.flat (k := 0) (a := x + 1) (by decide) rfl).row (k := 4) (r := x + 10) (by decide) rfl rfl).1 hM hS hl.1 rfl rfl ⟨Nat.le_of_ble_eq_true rfl, Nat.le_of_ble_eq_true rfl⟩ ⟨Nat.le_of_ble_eq_true rfl, Nat.le_of_ble_eq_true rfl⟩ (Nat.le_of_ble_eq_true rfl) (fun H locs hM hS => ?_)
    exact k_iret hc hr dX5_camelOf_51 hM hS (Nat.le_of_ble_eq_true rfl) (Nat.le_of_ble_eq_true rfl) (by first | (simp only [cmV, cmOk, eq_true q_2_0, eq_true c_6_0, not_false_eq_true, not_true_eq_false, and_true, true_and, and_false, false_and, and_self, ↓reduceIte, or_true, true_or, or_self, or_false, false_or]; done) | (simp only [cmV, cmOk, eq_true q_2_0, eq_true c_6_0, not_false_eq_true, not_true_eq_false, and_true, true_and, and_false, false_and, and_self, ↓reduceIte, or_true, true_or, or_self, or_false, false_or]; rfl))
  by_cases c_6_1 : w = 1
  · skip
    have e_6 : w.toInt = 1 := by rw [c_6_1]; rfl
    refine lv_tableIn (tgt := 52) hx hb dX5_camelOf_6 (by rw [e_6]; decide) (by rw [e_6]; decide) (by rw [e_6]; rfl) (by decide) ?_
    refine lv_aload_n hx hb dX5_camelOf_52 rfl (lv_at hl 0 rfl) ?_
    refine gt_X5_10 hc dX5_camelOf_53 hM hW.o rfl ?_
    refine gt_X5_140 hc dX5_camelOf_56 hM (hW.flat (k := 0) (a := x + 1) (by decide) rfl).o rfl ?_
    refine lv_iload_n hx hb dX5_camelOf_59 rfl (lv_at hl 1 rfl) ?_
    refine k_V1 hc [.int i] cw_X5_120 rfl dX5_camelOf_60 (c_X3_get l hlf g _ (x + 12) 6 (cs 0 8 5) (cs 0 5) i ((hW.flat (k := 0) (a := x + 1) (by decide) rfl).row (k := 5) (r := x + 12) (by decide) rfl rfl) (by decide)) ((hW.flat (k := 0) (a := x + 1) (by decide) rfl).row (k := 5) (r := x + 12) (by decide) rfl rfl).1 hM hS hl.1 rfl rfl ⟨Nat.le_of_ble_eq_true rfl, Nat.le_of_ble_eq_true rfl⟩ ⟨Nat.le_of_ble_eq_true rfl, Nat.le_of_ble_eq_true rfl⟩ (Nat.le_of_ble_eq_true rfl) (fun H locs hM hS => ?_)
    exact k_iret hc hr dX5_camelOf_63 hM hS (Nat.le_of_ble_eq_true rfl) (Nat.le_of_ble_eq_true rfl) (by first | (simp only [cmV, cmOk, eq_true q_2_0, eq_false c_6_0, eq_true c_6_1, not_false_eq_true, not_true_eq_false, and_true, true_and, and_false, false_and, and_self, ↓reduceIte, or_true, true_or, or_self, or_false, false_or]; done) | (simp only [cmV, cmOk, eq_true q_2_0, eq_false c_6_0, eq_true c_6_1, not_false_eq_true, not_true_eq_false, and_true, true_and, and_false, false_and, and_self, ↓reduceIte, or_true, true_or, or_self, or_false, false_or]; rfl))
  by_cases c_6_2 : w = 2
  · skip
    have e_6 : w.toInt = 2 := by rw [c_6_2]; rfl
    refine lv_tableIn (tgt := 64) hx hb dX5_camelOf_6 (by rw [e_6]; decide) (by rw [e_6]; decide) (by rw [e_6]; rfl) (by decide) ?_
    refine lv_aload_n hx hb dX5_camelOf_64 rfl (lv_at hl 0 rfl) ?_
    refine gt_X5_10 hc dX5_camelOf_65 hM hW.o rfl ?_
    refine gt_X5_143 hc dX5_camelOf_68 hM (hW.flat (k := 0) (a := x + 1) (by decide) rfl).o rfl ?_
    refine lv_iload_n hx hb dX5_camelOf_71 rfl (lv_at hl 1 rfl) ?_
    refine k_V1 hc [.int i] cw_X5_120 rfl dX5_camelOf_72 (c_X3_get l hlf g _ (x + 14) 6 (cs 0 8 6) (cs 0 6) i ((hW.flat (k := 0) (a := x + 1) (by decide) rfl).row (k := 6) (r := x + 14) (by decide) rfl rfl) (by decide)) ((hW.flat (k := 0) (a := x + 1) (by decide) rfl).row (k := 6) (r := x + 14) (by decide) rfl rfl).1 hM hS hl.1 rfl rfl ⟨Nat.le_of_ble_eq_true rfl, Nat.le_of_ble_eq_true rfl⟩ ⟨Nat.le_of_ble_eq_true rfl, Nat.le_of_ble_eq_true rfl⟩ (Nat.le_of_ble_eq_true rfl) (fun H locs hM hS => ?_)
    exact k_iret hc hr dX5_camelOf_75 hM hS (Nat.le_of_ble_eq_true rfl) (Nat.le_of_ble_eq_true rfl) (by first | (simp only [cmV, cmOk, eq_true q_2_0, eq_false c_6_0, eq_false c_6_1, eq_true c_6_2, not_false_eq_true, not_true_eq_false, and_true, true_and, and_false, false_and, and_self, ↓reduceIte, or_true, true_or, or_self, or_false, false_or]; done) | (simp only [cmV, cmOk, eq_true q_2_0, eq_false c_6_0, eq_false c_6_1, eq_true c_6_2, not_false_eq_true, not_true_eq_false, and_true, true_and, and_false, false_and, and_self, ↓reduceIte, or_true, true_or, or_self, or_false, false_or]; rfl))
  by_cases c_6_3 : w = 3
  · skip
    have e_6 : w.toInt = 3 := by rw [c_6_3]; rfl
    refine lv_tableIn (tgt := 76) hx hb dX5_camelOf_6 (by rw [e_6]; decide) (by rw [e_6]; decide) (by rw [e_6]; rfl) (by decide) ?_
    refine lv_aload_n hx hb dX5_camelOf_76 rfl (lv_at hl 0 rfl) ?_
    refine gt_X5_10 hc dX5_camelOf_77 hM hW.o rfl ?_
    refine lv_iload_n hx hb dX5_camelOf_80 rfl (lv_at hl 1 rfl) ?_
    refine k_V1 hc [.int i] cw_X5_146 rfl dX5_camelOf_81 (c_X0_isLost l hlf g _ (x + 1) (cs 0) i (hW.flat (k := 0) (a := x + 1) (by decide) rfl)) (hW.flat (k := 0) (a := x + 1) (by decide) rfl).o hM hS hl.1 rfl rfl ⟨Nat.le_of_ble_eq_true rfl, Nat.le_of_ble_eq_true rfl⟩ ⟨Nat.le_of_ble_eq_true rfl, Nat.le_of_ble_eq_true rfl⟩ (Nat.le_of_ble_eq_true rfl) (fun H locs hM hS => ?_)
    refine lv_if_eq (tgt := 91) hx hb dX5_camelOf_84 (by decide) (fun c_84 => ?_) (fun c_84 => ?_)
    · skip
      have c_84 := bI_eq.mp c_84
      refine lv_iconst (v := 0) hx hb dX5_camelOf_91 (by decide) ?_
      exact k_iret hc hr dX5_camelOf_92 hM hS (Nat.le_of_ble_eq_true rfl) (Nat.le_of_ble_eq_true rfl) (by first | (simp only [cmV, cmOk, eq_true q_2_0, eq_false c_6_0, eq_false c_6_1, eq_false c_6_2, eq_true c_6_3, eq_false c_84, not_false_eq_true, not_true_eq_false, and_true, true_and, and_false, false_and, and_self, ↓reduceIte, or_true, true_or, or_self, or_false, false_or]; done) | (simp only [cmV, cmOk, eq_true q_2_0, eq_false c_6_0, eq_false c_6_1, eq_false c_6_2, eq_true c_6_3, eq_false c_84, not_false_eq_true, not_true_eq_false, and_true, true_and, and_false, false_and, and_self, ↓reduceIte, or_true, true_or, or_self, or_false, false_or]; rfl))
    · skip
      have c_84 := bI_ne.mp c_84
      refine lv_iconst (v := 1) hx hb dX5_camelOf_87 (by decide) ?_
      refine lv_goto (tgt := 92) hx hb dX5_camelOf_88 (by decide) ?_
      exact k_iret hc hr dX5_camelOf_92 hM hS (Nat.le_of_ble_eq_true rfl) (Nat.le_of_ble_eq_true rfl) (by first | (simp only [cmV, cmOk, eq_true q_2_0, eq_false c_6_0, eq_false c_6_1, eq_false c_6_2, eq_true c_6_3, eq_true c_84, not_false_eq_true, not_true_eq_false, and_true, true_and, and_false, false_and, and_self, ↓reduceIte, or_true, true_or, or_self, or_false, false_or]; done) | (simp only [cmV, cmOk, eq_true q_2_0, eq_false c_6_0, eq_false c_6_1, eq_false c_6_2, eq_true c_6_3, eq_true c_84, not_false_eq_true, not_true_eq_false, and_true, true_and, and_false, false_and, and_self, ↓reduceIte, or_true, true_or, or_self, or_false, false_or]; rfl))
  by_cases c_6_4 : w = 4
  · skip
    have e_6 : w.toInt = 4 := by rw [c_6_4]; rfl
    refine lv_tableIn (tgt := 93) hx hb dX5_camelOf_6 (by rw [e_6]; decide) (by rw [e_6]; decide) (by rw [e_6]; rfl) (by decide) ?_
    refine lv_aload_n hx hb dX5_camelOf_93 rfl (lv_at hl 0 rfl) ?_
    refine gt_X5_10 hc dX5_camelOf_94 hM hW.o rfl ?_
    refine gt_X5_150 hc dX5_camelOf_97 hM (hW.flat (k := 0) (a := x + 1) (by decide) rfl).o rfl ?_
    refine lv_iload_n hx hb dX5_camelOf_100 rfl (lv_at hl 1 rfl) ?_
    refine k_V1 hc [.int i] cw_X5_120 rfl dX5_camelOf_101 (c_X3_get l hlf g _ (x + 16) 6 (cs 0 8 7) (cs 0 7) i ((hW.flat (k := 0) (a := x + 1) (by decide) rfl).row (k := 7) (r := x + 16) (by decide) rfl rfl) (by decide)) ((hW.flat (k := 0) (a := x + 1) (by decide) rfl).row (k := 7) (r := x + 16) (by decide) rfl rfl).1 hM hS hl.1 rfl rfl ⟨Nat.le_of_ble_eq_true rfl, Nat.le_of_ble_eq_true rfl⟩ ⟨Nat.le_of_ble_eq_true rfl, Nat.le_of_ble_eq_true rfl⟩ (Nat.le_of_ble_eq_true rfl) (fun H locs hM hS => ?_)
    exact k_iret hc hr dX5_camelOf_104 hM hS (Nat.le_of_ble_eq_true rfl) (Nat.le_of_ble_eq_true rfl) (by first | (simp only [cmV, cmOk, eq_true q_2_0, eq_false c_6_0, eq_false c_6_1, eq_false c_6_2, eq_false c_6_3, eq_true c_6_4, not_false_eq_true, not_true_eq_false, and_true, true_and, and_false, false_and, and_self, ↓reduceIte, or_true, true_or, or_self, or_false, false_or]; done) | (simp only [cmV, cmOk, eq_true q_2_0, eq_false c_6_0, eq_false c_6_1, eq_false c_6_2, eq_false c_6_3, eq_true c_6_4, not_false_eq_true, not_true_eq_false, and_true, true_and, and_false, false_and, and_self, ↓reduceIte, or_true, true_or, or_self, or_false, false_or]; rfl))
  have t_6 : (w.toInt < 0 ∨ 4 < w.toInt) ∨ (¬ w.toInt < 0 ∧ ¬ 4 < w.toInt ∧ (#[(34 : Int), (46 : Int), (58 : Int), (70 : Int), (87 : Int)] : Array Int)[(w.toInt - 0).toNat]? = some 99) := by
    by_cases h1 : w.toInt < 0
    · exact Or.inl (Or.inl h1)
    by_cases h2 : 4 < w.toInt
    · exact Or.inl (Or.inr h2)
    exact Or.inr ⟨h1, h2, tab_df (n := 5) (exc := [0, 1, 2, 3, 4]) (by decide) h1 h2 (by decide) (exc_c (tab_ne c_6_0 (by decide) h1) (exc_c (tab_ne c_6_1 (by decide) h1) (exc_c (tab_ne c_6_2 (by decide) h1) (exc_c (tab_ne c_6_3 (by decide) h1) (exc_c (tab_ne c_6_4 (by decide) h1) exc_n)))))⟩
  refine k_tabDf (tgt := 105) hx hb dX5_camelOf_6 t_6 (by decide) ?_
  exact k_throw hc hnx th_IllegalArgumentException 14 tx_14 hM hS hl.1 dX5_camelOf_105 dX5_camelOf_108 dX5_camelOf_109 dX5_camelOf_111 dX5_camelOf_114 ⟨Nat.le_of_ble_eq_true rfl, Nat.le_of_ble_eq_true rfl, Nat.le_of_ble_eq_true rfl, Nat.le_of_ble_eq_true rfl⟩ (Nat.le_of_ble_eq_true rfl) (Nat.le_of_ble_eq_true rfl) (by first | (simp only [cmV, cmOk, eq_true q_2_0, eq_false c_6_0, eq_false c_6_1, eq_false c_6_2, eq_false c_6_3, eq_false c_6_4, not_false_eq_true, not_true_eq_false, and_true, true_and, and_false, false_and, and_self, ↓reduceIte, or_true, true_or, or_self, or_false, false_or]; done) | (simp only [cmV, cmOk, eq_true q_2_0, eq_false c_6_0, eq_false c_6_1, eq_false c_6_2, eq_false c_6_3, eq_false c_6_4, not_false_eq_true, not_true_eq_false, and_true, true_and, and_false, false_and, and_self, ↓reduceIte, or_true, true_or, or_self, or_false, false_or]; rfl))
set_option maxHeartbeats 4000000 in
set_option maxRecDepth 100000 in
theorem c_X5_drawnAt (l : Launch) (hlf : l.stackTraces = false) (g : GC) (M : HM) (x : Nat) (cs : CS) (i : Int32) (j : Int32) (hW : ClsAt g M x cs) : KM g l yX5_drawnAt cX5_drawnAt 4 (some .int) 7 3 18 [.ref x, .int i, .int j] M (if rin 10 (cs 0 8 0) i then if hasSh (cs 0) j then if ¬ drawnF (cs 0) i j = -1 then .inl (some (.int (drawnF (cs 0) i j)), M) else .inr ("java/util/NoSuchElementException", M) else .inr ("java/lang/IndexOutOfBoundsException", M) else .inr ("java/lang/IndexOutOfBoundsException", M)) := by
  refine k_meth hlf (by decide) (Nat.le_of_ble_eq_true rfl) fun p e s m below meth c ls hc hr hnx hM hS hl => ?_
  have hc : Cx g p l s m [.ref x, .int i, .int j].toArray meth c cX5_drawnAt 4 RX5 := hc
  have hx := hc.1
  have hb := hc.2.1
  have hl : lv_has ls 4 [(0, .ref x), (1, .int i), (2, .int j)] := hl
  refine lv_aload_n hx hb dX5_drawnAt_0 rfl (lv_at hl 0 rfl) ?_
  refine lv_iload_n hx hb dX5_drawnAt_1 rfl (lv_at hl 1 rfl) ?_
  by_cases q_2_0 : rin 10 (cs 0 8 0) i
  rotate_left 1
  · skip
    have hK := c_X5_needStake l hlf g _ x cs i hW
    rw [if_neg q_2_0] at hK
    refine k_VX hc [.int i] cw_X5_112 rfl dX5_drawnAt_2 hK hW.o hM hS hl.1 rfl rfl ⟨Nat.le_of_ble_eq_true rfl, Nat.le_of_ble_eq_true rfl⟩ ⟨Nat.le_of_ble_eq_true rfl, Nat.le_of_ble_eq_true rfl⟩ (Nat.le_of_ble_eq_true rfl) (fun H locs q9 ce hM hS h1 h2 h3 => ?_)
    exact k_out hc hnx hM hS (Nat.le_of_ble_eq_true rfl) (Nat.le_of_ble_eq_true rfl) h1 h2 h3 (by first | (simp only [eq_false q_2_0, not_false_eq_true, not_true_eq_false, and_true, true_and, and_false, false_and, and_self, ↓reduceIte, or_true, true_or, or_self, or_false, false_or]; done) | (simp only [eq_false q_2_0, not_false_eq_true, not_true_eq_false, and_true, true_and, and_false, false_and, and_self, ↓reduceIte, or_true, true_or, or_self, or_false, false_or]; rfl))
  have hK := c_X5_needStake l hlf g _ x cs i hW
  rw [if_pos q_2_0] at hK
  refine k_V0 hc [.int i] cw_X5_112 rfl dX5_drawnAt_2 hK hW.o hM hS hl.1 rfl rfl ⟨Nat.le_of_ble_eq_true rfl, Nat.le_of_ble_eq_true rfl⟩ ⟨Nat.le_of_ble_eq_true rfl, Nat.le_of_ble_eq_true rfl⟩ (Nat.le_of_ble_eq_true rfl) (fun H locs hM hS => ?_)
  refine lv_aload_n hx hb dX5_drawnAt_5 rfl (lv_at hl 0 rfl) ?_
  refine lv_iload_n hx hb dX5_drawnAt_6 rfl (lv_at hl 2 rfl) ?_
  by_cases q_7_0 : hasSh (cs 0) j
  rotate_left 1
  · skip
    have hK := c_X5_needSheet l hlf g _ x cs j hW
    rw [if_neg q_7_0] at hK
    refine k_VX hc [.int j] cw_X5_160 rfl dX5_drawnAt_7 hK hW.o hM hS hl.1 rfl rfl ⟨Nat.le_of_ble_eq_true rfl, Nat.le_of_ble_eq_true rfl⟩ ⟨Nat.le_of_ble_eq_true rfl, Nat.le_of_ble_eq_true rfl⟩ (Nat.le_of_ble_eq_true rfl) (fun H locs q9 ce hM hS h1 h2 h3 => ?_)
    exact k_out hc hnx hM hS (Nat.le_of_ble_eq_true rfl) (Nat.le_of_ble_eq_true rfl) h1 h2 h3 (by first | (simp only [eq_true q_2_0, eq_false q_7_0, not_false_eq_true, not_true_eq_false, and_true, true_and, and_false, false_and, and_self, ↓reduceIte, or_true, true_or, or_self, or_false, false_or]; done) | (simp only [eq_true q_2_0, eq_false q_7_0, not_false_eq_true, not_true_eq_false, and_true, true_and, and_false, false_and, and_self, ↓reduceIte, or_true, true_or, or_self, or_false, false_or]; rfl))
  have hK := c_X5_needSheet l hlf g _ x cs j hW
  rw [if_pos q_7_0] at hK
  refine k_V0 hc [.int j] cw_X5_160 rfl dX5_drawnAt_7 hK hW.o hM hS hl.1 rfl rfl ⟨Nat.le_of_ble_eq_true rfl, Nat.le_of_ble_eq_true rfl⟩ ⟨Nat.le_of_ble_eq_true rfl, Nat.le_of_ble_eq_true rfl⟩ (Nat.le_of_ble_eq_true rfl) (fun H locs hM hS => ?_)
  refine lv_aload_n hx hb dX5_drawnAt_10 rfl (lv_at hl 0 rfl) ?_
  refine gt_X5_10 hc dX5_drawnAt_11 hM hW.o rfl ?_
  refine lv_iload_n hx hb dX5_drawnAt_14 rfl (lv_at hl 1 rfl) ?_
  refine lv_iload_n hx hb dX5_drawnAt_15 rfl (lv_at hl 2 rfl) ?_
  refine k_V1 hc [.int i, .int j] cw_X5_163 rfl dX5_drawnAt_16 (c_X0_drawnPlace l hlf g _ (x + 1) (cs 0) i j (hW.flat (k := 0) (a := x + 1) (by decide) rfl)) (hW.flat (k := 0) (a := x + 1) (by decide) rfl).o hM hS hl.1 rfl rfl ⟨Nat.le_of_ble_eq_true rfl, Nat.le_of_ble_eq_true rfl⟩ ⟨Nat.le_of_ble_eq_true rfl, Nat.le_of_ble_eq_true rfl⟩ (Nat.le_of_ble_eq_true rfl) (fun H locs hM hS => ?_)
  refine lv_istore_n (lv' := [(3, .int (drawnF (cs 0) i j)), (0, .ref x), (1, .int i), (2, .int j)]) hx hb dX5_drawnAt_19 rfl hl (by decide) rfl (fun ls hl => ?_)
  refine lv_iload_n hx hb dX5_drawnAt_20 rfl (lv_at hl 0 rfl) ?_
  refine lv_iconst (v := (-1)) hx hb dX5_drawnAt_21 (by decide) ?_
  refine lv_icmp_ne (tgt := 35) hx hb dX5_drawnAt_22 (by decide) (fun c_22 => ?_) (fun c_22 => ?_)
  · skip
    refine lv_iload_n hx hb dX5_drawnAt_35 rfl (lv_at hl 0 rfl) ?_
    exact k_iret hc hr dX5_drawnAt_36 hM hS (Nat.le_of_ble_eq_true rfl) (Nat.le_of_ble_eq_true rfl) (by first | (simp only [eq_true q_2_0, eq_true q_7_0, eq_false c_22, not_false_eq_true, not_true_eq_false, and_true, true_and, and_false, false_and, and_self, ↓reduceIte, or_true, true_or, or_self, or_false, false_or]; done) | (simp only [eq_true q_2_0, eq_true q_7_0, eq_false c_22, not_false_eq_true, not_true_eq_false, and_true, true_and, and_false, false_and, and_self, ↓reduceIte, or_true, true_or, or_self, or_false, false_or]; rfl))
  · skip
    exact k_throwN hc hnx 16 tx_16 hM hS hl.1 dX5_drawnAt_25 dX5_drawnAt_28 dX5_drawnAt_29 dX5_drawnAt_31 dX5_drawnAt_34 ⟨Nat.le_of_ble_eq_true rfl, Nat.le_of_ble_eq_true rfl, Nat.le_of_ble_eq_true rfl, Nat.le_of_ble_eq_true rfl⟩ (Nat.le_of_ble_eq_true rfl) (Nat.le_of_ble_eq_true rfl) (by first | (simp only [eq_true q_2_0, eq_true q_7_0, eq_true c_22, not_false_eq_true, not_true_eq_false, and_true, true_and, and_false, false_and, and_self, ↓reduceIte, or_true, true_or, or_self, or_false, false_or]; done) | (simp only [eq_true q_2_0, eq_true q_7_0, eq_true c_22, not_false_eq_true, not_true_eq_false, and_true, true_and, and_false, false_and, and_self, ↓reduceIte, or_true, true_or, or_self, or_false, false_or]; rfl))
set_option maxHeartbeats 4000000 in
set_option maxRecDepth 100000 in
theorem c_X5_wrongBy (l : Launch) (hlf : l.stackTraces = false) (g : GC) (M : HM) (x : Nat) (cs : CS) (i : Int32) (hW : ClsAt g M x cs) : KM g l yX5_wrongBy cX5_wrongBy 5 (some .int) 7 3 18 [.ref x, .int i] M (if hasSh (cs 0) i then .inl (some (.int (wbF (cs 0) i)), M) else .inr ("java/lang/IndexOutOfBoundsException", M)) := by
  refine k_meth hlf (by decide) (Nat.le_of_ble_eq_true rfl) fun p e s m below meth c ls hc hr hnx hM hS hl => ?_
  have hc : Cx g p l s m [.ref x, .int i].toArray meth c cX5_wrongBy 5 RX5 := hc
  have hx := hc.1
  have hb := hc.2.1
  have hl : lv_has ls 5 [(0, .ref x), (1, .int i)] := hl
  refine lv_aload_n hx hb dX5_wrongBy_0 rfl (lv_at hl 0 rfl) ?_
  refine lv_iload_n hx hb dX5_wrongBy_1 rfl (lv_at hl 1 rfl) ?_
  by_cases q_2_0 : hasSh (cs 0) i
  rotate_left 1
  · skip
    have hK := c_X5_needSheet l hlf g _ x cs i hW
    rw [if_neg q_2_0] at hK
    refine k_VX hc [.int i] cw_X5_160 rfl dX5_wrongBy_2 hK hW.o hM hS hl.1 rfl rfl ⟨Nat.le_of_ble_eq_true rfl, Nat.le_of_ble_eq_true rfl⟩ ⟨Nat.le_of_ble_eq_true rfl, Nat.le_of_ble_eq_true rfl⟩ (Nat.le_of_ble_eq_true rfl) (fun H locs q9 ce hM hS h1 h2 h3 => ?_)
    exact k_out hc hnx hM hS (Nat.le_of_ble_eq_true rfl) (Nat.le_of_ble_eq_true rfl) h1 h2 h3 (by first | (simp only [eq_false q_2_0, not_false_eq_true, not_true_eq_false, and_true, true_and, and_false, false_and, and_self, ↓reduceIte, or_true, true_or, or_self, or_false, false_or]; done) | (simp only [eq_false q_2_0, not_false_eq_true, not_true_eq_false, and_true, true_and, and_false, false_and, and_self, ↓reduceIte, or_true, true_or, or_self, or_false, false_or]; rfl))
  have hK := c_X5_needSheet l hlf g _ x cs i hW
  rw [if_pos q_2_0] at hK
  refine k_V0 hc [.int i] cw_X5_160 rfl dX5_wrongBy_2 hK hW.o hM hS hl.1 rfl rfl ⟨Nat.le_of_ble_eq_true rfl, Nat.le_of_ble_eq_true rfl⟩ ⟨Nat.le_of_ble_eq_true rfl, Nat.le_of_ble_eq_true rfl⟩ (Nat.le_of_ble_eq_true rfl) (fun H locs hM hS => ?_)
  refine lv_iconst (v := 0) hx hb dX5_wrongBy_5 (by decide) ?_
  refine lv_istore_n (lv' := [(2, .int 0), (0, .ref x), (1, .int i)]) hx hb dX5_wrongBy_6 rfl hl (by decide) rfl (fun ls hl => ?_)
  refine lv_iconst (v := 0) hx hb dX5_wrongBy_7 (by decide) ?_
  refine lv_istore_n (lv' := [(3, .int 0), (2, .int 0), (0, .ref x), (1, .int i)]) hx hb dX5_wrongBy_8 rfl hl (by decide) rfl (fun ls hl => ?_)
  have lp_9 : ∀ (D k : Nat), ((cs 0 8 0).toNatClampNeg) - k < D → k ≤ (cs 0 8 0).toNatClampNeg → ∀ (ls : Array Slot) (H : Heap) (locs : List Loc), hR g M H → va_S (gA g) s.heap H locs → lv_has ls 5 [(3, .int (nI k)), (2, .int (itr (wbS (cs 0) i) 0 k)), (0, .ref x), (1, .int i)] → W p l e (rmOf 7 3 18) s m [.ref x, .int i].toArray below meth c H locs 1 6 (vx_MQ below (KQ g (if hasSh (cs 0) i then .inl (some (.int (wbF (cs 0) i)), M) else .inr ("java/lang/IndexOutOfBoundsException", M))) (KX g (if hasSh (cs 0) i then .inl (some (.int (wbF (cs 0) i)), M) else .inr ("java/lang/IndexOutOfBoundsException", M))) [.ref x, .int i].toArray s 3 18 (gA g)) (F0 m 9 ls []) := by
    intro D
    induction D with
    | zero => intro k hD; exact absurd hD (Nat.not_lt_zero _)
    | succ D ih_9 =>
      intro k hD hk ls H locs hM hS hl
      refine lv_iload_n hx hb dX5_wrongBy_9 rfl (lv_at hl 0 rfl) ?_
      refine lv_aload_n hx hb dX5_wrongBy_10 rfl (lv_at hl 2 rfl) ?_
      refine gt_X5_10 hc dX5_wrongBy_11 hM hW.o rfl ?_
      refine gt_X5_116 hc dX5_wrongBy_14 hM (hW.flat (k := 0) (a := x + 1) (by decide) rfl).o rfl ?_
      refine k_V1 hc [] cw_X5_171 rfl dX5_wrongBy_17 (c_X3_size l hlf g _ (x + 2) 10 (cs 0 8 0) (cs 0 0) ((hW.flat (k := 0) (a := x + 1) (by decide) rfl).row (k := 0) (r := x + 2) (by decide) rfl rfl)) ((hW.flat (k := 0) (a := x + 1) (by decide) rfl).row (k := 0) (r := x + 2) (by decide) rfl rfl).1 hM hS hl.1 rfl rfl ⟨Nat.le_of_ble_eq_true rfl, Nat.le_of_ble_eq_true rfl⟩ ⟨Nat.le_of_ble_eq_true rfl, Nat.le_of_ble_eq_true rfl⟩ (Nat.le_of_ble_eq_true rfl) (fun H locs hM hS => ?_)
      refine lv_icmp_ge (tgt := 70) hx hb dX5_wrongBy_20 (by decide) (fun c_20 => ?_) (fun c_20 => ?_)
      · skip
        have c_20 := (k_le (by have := k_clamp_lt (cs 0 8 0); omega)).mp c_20
        refine lv_iload_n hx hb dX5_wrongBy_70 rfl (lv_at hl 1 rfl) ?_
        exact k_iret hc hr dX5_wrongBy_71 hM hS (Nat.le_of_ble_eq_true rfl) (Nat.le_of_ble_eq_true rfl) (by rw [wbF, show k = (cs 0 8 0).toNatClampNeg by omega, if_pos q_2_0])
      · skip
        have c_20 : ¬ (cs 0 8 0).toNatClampNeg ≤ k := fun h => c_20 ((k_le (by have := k_clamp_lt (cs 0 8 0); omega)).mpr h)
        refine lv_aload_n hx hb dX5_wrongBy_23 rfl (lv_at hl 2 rfl) ?_
        refine gt_X5_10 hc dX5_wrongBy_24 hM hW.o rfl ?_
        refine lv_iload_n hx hb dX5_wrongBy_27 rfl (lv_at hl 0 rfl) ?_
        refine lv_iload_n hx hb dX5_wrongBy_28 rfl (lv_at hl 3 rfl) ?_
        refine k_V1 hc [.int (nI k), .int i] cw_X5_163 rfl dX5_wrongBy_29 (c_X0_drawnPlace l hlf g _ (x + 1) (cs 0) (nI k) i (hW.flat (k := 0) (a := x + 1) (by decide) rfl)) (hW.flat (k := 0) (a := x + 1) (by decide) rfl).o hM hS hl.1 rfl rfl ⟨Nat.le_of_ble_eq_true rfl, Nat.le_of_ble_eq_true rfl⟩ ⟨Nat.le_of_ble_eq_true rfl, Nat.le_of_ble_eq_true rfl⟩ (Nat.le_of_ble_eq_true rfl) (fun H locs hM hS => ?_)
        refine lv_istore (lv' := [(4, .int (drawnF (cs 0) (nI k) i)), (3, .int (nI k)), (2, .int (itr (wbS (cs 0) i) 0 k)), (0, .ref x), (1, .int i)]) hx hb dX5_wrongBy_32 hl (by decide) rfl (fun ls hl => ?_)
        refine lv_iload_n hx hb dX5_wrongBy_34 rfl (lv_at hl 2 rfl) ?_
        refine lv_iload hx hb dX5_wrongBy_35 (lv_at hl 0 rfl) ?_
        refine lv_iconst (v := (-1)) hx hb dX5_wrongBy_37 (by decide) ?_
        refine lv_icmp_ne (tgt := 45) hx hb dX5_wrongBy_38 (by decide) (fun c_38 => ?_) (fun c_38 => ?_)
        · skip
          refine lv_iload hx hb dX5_wrongBy_45 (lv_at hl 0 rfl) ?_
          refine lv_aload_n hx hb dX5_wrongBy_47 rfl (lv_at hl 3 rfl) ?_
          refine gt_X5_10 hc dX5_wrongBy_48 hM hW.o rfl ?_
          refine gt_X5_116 hc dX5_wrongBy_51 hM (hW.flat (k := 0) (a := x + 1) (by decide) rfl).o rfl ?_
          refine lv_iload_n hx hb dX5_wrongBy_54 rfl (lv_at hl 1 rfl) ?_
          refine k_V1 hc [.int (nI k)] cw_X5_120 rfl dX5_wrongBy_55 (c_X3_get l hlf g _ (x + 2) 10 (cs 0 8 0) (cs 0 0) (nI k) ((hW.flat (k := 0) (a := x + 1) (by decide) rfl).row (k := 0) (r := x + 2) (by decide) rfl rfl) (by decide)) ((hW.flat (k := 0) (a := x + 1) (by decide) rfl).row (k := 0) (r := x + 2) (by decide) rfl rfl).1 hM hS hl.1 rfl rfl ⟨Nat.le_of_ble_eq_true rfl, Nat.le_of_ble_eq_true rfl⟩ ⟨Nat.le_of_ble_eq_true rfl, Nat.le_of_ble_eq_true rfl⟩ (Nat.le_of_ble_eq_true rfl) (fun H locs hM hS => ?_)
          refine lv_isub hx hb dX5_wrongBy_58 ?_
          refine k_abs hc q_X5_174 dX5_wrongBy_59 hl.1 ⟨Nat.le_of_ble_eq_true rfl, Nat.le_of_ble_eq_true rfl, Nat.le_of_ble_eq_true rfl, Nat.le_of_ble_eq_true rfl⟩ ?_
          refine lv_iadd hx hb dX5_wrongBy_62 ?_
          refine lv_istore_n (lv' := [(2, .int ((itr (wbS (cs 0) i) 0 k) + (absI ((drawnF (cs 0) (nI k) i) - (rget 10 (cs 0 8 0) (cs 0 0) (nI k)))))), (4, .int (drawnF (cs 0) (nI k) i)), (3, .int (nI k)), (0, .ref x), (1, .int i)]) hx hb dX5_wrongBy_63 rfl hl (by decide) rfl (fun ls hl => ?_)
          refine lv_iinc (v := (nI (k + 1))) (lv' := [(3, .int (nI (k + 1))), (2, .int ((itr (wbS (cs 0) i) 0 k) + (absI ((drawnF (cs 0) (nI k) i) - (rget 10 (cs 0 8 0) (cs 0 0) (nI k)))))), (4, .int (drawnF (cs 0) (nI k) i)), (0, .ref x), (1, .int i)]) hx hb dX5_wrongBy_64 hl (k := 2) rfl (k_inc1 _) (by decide) rfl (fun ls hl => ?_)
          refine lv_goto (tgt := 9) hx hb dX5_wrongBy_67 (by decide) ?_
          have z_2 : ((itr (wbS (cs 0) i) 0 k) + (absI ((drawnF (cs 0) (nI k) i) - (rget 10 (cs 0 8 0) (cs 0 0) (nI k))))) = (itr (wbS (cs 0) i) 0 (k + 1)) := (by rw [itr_s]; simp only [wbS, eq_true q_2_0, eq_false c_20, eq_false c_38, not_false_eq_true, not_true_eq_false, and_true, true_and, and_false, false_and, and_self, ↓reduceIte, or_true, true_or, or_self, or_false, false_or])
          have hl := lv_chg (lv_sub hl [1, 0, 2, 3, 4] rfl) z_2
          exact ih_9 (k + 1) (by omega) (by omega) ls _ _ hM hS (lv_sub hl [1, 0, 3, 4] rfl)
        · skip
          refine lv_iconst (v := 0) hx hb dX5_wrongBy_41 (by decide) ?_
          refine lv_goto (tgt := 62) hx hb dX5_wrongBy_42 (by decide) ?_
          refine lv_iadd hx hb dX5_wrongBy_62 ?_
          refine lv_istore_n (lv' := [(2, .int ((itr (wbS (cs 0) i) 0 k) + 0)), (4, .int (drawnF (cs 0) (nI k) i)), (3, .int (nI k)), (0, .ref x), (1, .int i)]) hx hb dX5_wrongBy_63 rfl hl (by decide) rfl (fun ls hl => ?_)
          refine lv_iinc (v := (nI (k + 1))) (lv' := [(3, .int (nI (k + 1))), (2, .int ((itr (wbS (cs 0) i) 0 k) + 0)), (4, .int (drawnF (cs 0) (nI k) i)), (0, .ref x), (1, .int i)]) hx hb dX5_wrongBy_64 hl (k := 2) rfl (k_inc1 _) (by decide) rfl (fun ls hl => ?_)
          refine lv_goto (tgt := 9) hx hb dX5_wrongBy_67 (by decide) ?_
          have z_2 : ((itr (wbS (cs 0) i) 0 k) + 0) = (itr (wbS (cs 0) i) 0 (k + 1)) := (by rw [itr_s]; simp only [wbS, eq_true q_2_0, eq_false c_20, eq_true c_38, not_false_eq_true, not_true_eq_false, and_true, true_and, and_false, false_and, and_self, ↓reduceIte, or_true, true_or, or_self, or_false, false_or])
          have hl := lv_chg (lv_sub hl [1, 0, 2, 3, 4] rfl) z_2
          exact ih_9 (k + 1) (by omega) (by omega) ls _ _ hM hS (lv_sub hl [1, 0, 3, 4] rfl)
  have z_3 : 0 = (nI 0) := rfl
  have hl := lv_chg (lv_sub hl [0, 1, 2, 3] rfl) z_3
  have z_2 : 0 = (itr (wbS (cs 0) i) 0 0) := rfl
  have hl := lv_chg (lv_sub hl [1, 0, 2, 3] rfl) z_2
  exact lp_9 ((cs 0 8 0).toNatClampNeg + 1) 0 (by omega) (by omega) ls _ _ hM hS (lv_sub hl [1, 0, 2, 3] rfl)
set_option maxHeartbeats 4000000 in
set_option maxRecDepth 100000 in
theorem c_X5_seems (l : Launch) (hlf : l.stackTraces = false) (g : GC) (M : HM) (x : Nat) (cs : CS) (i : Int32) (j : Int32) (hW : ClsAt g M x cs) : KM g l yX5_seems cX5_seems 3 (some .int) 8 3 18 [.ref x, .int i, .int j] M (if rin 10 (cs 0 8 0) i then if rin 4 (cs 0 8 1) j then .inl (some (.int (seemF (cs 0) i j)), M) else .inr ("java/lang/IndexOutOfBoundsException", M) else .inr ("java/lang/IndexOutOfBoundsException", M)) := by
  refine k_meth hlf (by decide) (Nat.le_of_ble_eq_true rfl) fun p e s m below meth c ls hc hr hnx hM hS hl => ?_
  have hc : Cx g p l s m [.ref x, .int i, .int j].toArray meth c cX5_seems 3 RX5 := hc
  have hx := hc.1
  have hb := hc.2.1
  have hl : lv_has ls 3 [(0, .ref x), (1, .int i), (2, .int j)] := hl
  refine lv_aload_n hx hb dX5_seems_0 rfl (lv_at hl 0 rfl) ?_
  refine lv_iload_n hx hb dX5_seems_1 rfl (lv_at hl 1 rfl) ?_
  by_cases q_2_0 : rin 10 (cs 0 8 0) i
  rotate_left 1
  · skip
    have hK := c_X5_needStake l hlf g _ x cs i hW
    rw [if_neg q_2_0] at hK
    refine k_VX hc [.int i] cw_X5_112 rfl dX5_seems_2 hK hW.o hM hS hl.1 rfl rfl ⟨Nat.le_of_ble_eq_true rfl, Nat.le_of_ble_eq_true rfl⟩ ⟨Nat.le_of_ble_eq_true rfl, Nat.le_of_ble_eq_true rfl⟩ (Nat.le_of_ble_eq_true rfl) (fun H locs q9 ce hM hS h1 h2 h3 => ?_)
    exact k_out hc hnx hM hS (Nat.le_of_ble_eq_true rfl) (Nat.le_of_ble_eq_true rfl) h1 h2 h3 (by first | (simp only [eq_false q_2_0, not_false_eq_true, not_true_eq_false, and_true, true_and, and_false, false_and, and_self, ↓reduceIte, or_true, true_or, or_self, or_false, false_or]; done) | (simp only [eq_false q_2_0, not_false_eq_true, not_true_eq_false, and_true, true_and, and_false, false_and, and_self, ↓reduceIte, or_true, true_or, or_self, or_false, false_or]; rfl))
  have hK := c_X5_needStake l hlf g _ x cs i hW
  rw [if_pos q_2_0] at hK
  refine k_V0 hc [.int i] cw_X5_112 rfl dX5_seems_2 hK hW.o hM hS hl.1 rfl rfl ⟨Nat.le_of_ble_eq_true rfl, Nat.le_of_ble_eq_true rfl⟩ ⟨Nat.le_of_ble_eq_true rfl, Nat.le_of_ble_eq_true rfl⟩ (Nat.le_of_ble_eq_true rfl) (fun H locs hM hS => ?_)
  refine lv_aload_n hx hb dX5_seems_5 rfl (lv_at hl 0 rfl) ?_
  refine lv_iload_n hx hb dX5_seems_6 rfl (lv_at hl 2 rfl) ?_
  by_cases q_7_0 : rin 4 (cs 0 8 1) j
  rotate_left 1
  · skip
    have hK := c_X5_needPost l hlf g _ x cs j hW
    rw [if_neg q_7_0] at hK
    refine k_VX hc [.int j] cw_X5_125 rfl dX5_seems_7 hK hW.o hM hS hl.1 rfl rfl ⟨Nat.le_of_ble_eq_true rfl, Nat.le_of_ble_eq_true rfl⟩ ⟨Nat.le_of_ble_eq_true rfl, Nat.le_of_ble_eq_true rfl⟩ (Nat.le_of_ble_eq_true rfl) (fun H locs q9 ce hM hS h1 h2 h3 => ?_)
    exact k_out hc hnx hM hS (Nat.le_of_ble_eq_true rfl) (Nat.le_of_ble_eq_true rfl) h1 h2 h3 (by first | (simp only [eq_true q_2_0, eq_false q_7_0, not_false_eq_true, not_true_eq_false, and_true, true_and, and_false, false_and, and_self, ↓reduceIte, or_true, true_or, or_self, or_false, false_or]; done) | (simp only [eq_true q_2_0, eq_false q_7_0, not_false_eq_true, not_true_eq_false, and_true, true_and, and_false, false_and, and_self, ↓reduceIte, or_true, true_or, or_self, or_false, false_or]; rfl))
  have hK := c_X5_needPost l hlf g _ x cs j hW
  rw [if_pos q_7_0] at hK
  refine k_V0 hc [.int j] cw_X5_125 rfl dX5_seems_7 hK hW.o hM hS hl.1 rfl rfl ⟨Nat.le_of_ble_eq_true rfl, Nat.le_of_ble_eq_true rfl⟩ ⟨Nat.le_of_ble_eq_true rfl, Nat.le_of_ble_eq_true rfl⟩ (Nat.le_of_ble_eq_true rfl) (fun H locs hM hS => ?_)
  refine lv_aload_n hx hb dX5_seems_10 rfl (lv_at hl 0 rfl) ?_
  refine gt_X5_10 hc dX5_seems_11 hM hW.o rfl ?_
  refine lv_iload_n hx hb dX5_seems_14 rfl (lv_at hl 1 rfl) ?_
  refine lv_iload_n hx hb dX5_seems_15 rfl (lv_at hl 2 rfl) ?_
  refine k_V1 hc [.int i, .int j] cw_X5_179 rfl dX5_seems_16 (c_X0_seemingPlace l hlf g _ (x + 1) (cs 0) i j (hW.flat (k := 0) (a := x + 1) (by decide) rfl)) (hW.flat (k := 0) (a := x + 1) (by decide) rfl).o hM hS hl.1 rfl rfl ⟨Nat.le_of_ble_eq_true rfl, Nat.le_of_ble_eq_true rfl⟩ ⟨Nat.le_of_ble_eq_true rfl, Nat.le_of_ble_eq_true rfl⟩ (Nat.le_of_ble_eq_true rfl) (fun H locs hM hS => ?_)
  exact k_iret hc hr dX5_seems_19 hM hS (Nat.le_of_ble_eq_true rfl) (Nat.le_of_ble_eq_true rfl) (by first | (simp only [eq_true q_2_0, eq_true q_7_0, not_false_eq_true, not_true_eq_false, and_true, true_and, and_false, false_and, and_self, ↓reduceIte, or_true, true_or, or_self, or_false, false_or]; done) | (simp only [eq_true q_2_0, eq_true q_7_0, not_false_eq_true, not_true_eq_false, and_true, true_and, and_false, false_and, and_self, ↓reduceIte, or_true, true_or, or_self, or_false, false_or]; rfl))
set_option maxHeartbeats 4000000 in
set_option maxRecDepth 100000 in
theorem c_X5_seemsAgain (l : Launch) (hlf : l.stackTraces = false) (g : GC) (M : HM) (x : Nat) (cs : CS) (i : Int32) (j : Int32) (hW : ClsAt g M x cs) : KM g l yX5_seemsAgain cX5_seemsAgain 3 (some .int) 8 3 18 [.ref x, .int i, .int j] M (if rin 10 (cs 0 8 0) i then if rin 4 (cs 0 8 1) j then .inl (some (.int (walkF (cs 0) i j)), M) else .inr ("java/lang/IndexOutOfBoundsException", M) else .inr ("java/lang/IndexOutOfBoundsException", M)) := by
  refine k_meth hlf (by decide) (Nat.le_of_ble_eq_true rfl) fun p e s m below meth c ls hc hr hnx hM hS hl => ?_
  have hc : Cx g p l s m [.ref x, .int i, .int j].toArray meth c cX5_seemsAgain 3 RX5 := hc
  have hx := hc.1
  have hb := hc.2.1
  have hl : lv_has ls 3 [(0, .ref x), (1, .int i), (2, .int j)] := hl
  refine lv_aload_n hx hb dX5_seemsAgain_0 rfl (lv_at hl 0 rfl) ?_
  refine lv_iload_n hx hb dX5_seemsAgain_1 rfl (lv_at hl 1 rfl) ?_
  by_cases q_2_0 : rin 10 (cs 0 8 0) i
  rotate_left 1
  · skip
    have hK := c_X5_needStake l hlf g _ x cs i hW
    rw [if_neg q_2_0] at hK
    refine k_VX hc [.int i] cw_X5_112 rfl dX5_seemsAgain_2 hK hW.o hM hS hl.1 rfl rfl ⟨Nat.le_of_ble_eq_true rfl, Nat.le_of_ble_eq_true rfl⟩ ⟨Nat.le_of_ble_eq_true rfl, Nat.le_of_ble_eq_true rfl⟩ (Nat.le_of_ble_eq_true rfl) (fun H locs q9 ce hM hS h1 h2 h3 => ?_)
    exact k_out hc hnx hM hS (Nat.le_of_ble_eq_true rfl) (Nat.le_of_ble_eq_true rfl) h1 h2 h3 (by first | (simp only [eq_false q_2_0, not_false_eq_true, not_true_eq_false, and_true, true_and, and_false, false_and, and_self, ↓reduceIte, or_true, true_or, or_self, or_false, false_or]; done) | (simp only [eq_false q_2_0, not_false_eq_true, not_true_eq_false, and_true, true_and, and_false, false_and, and_self, ↓reduceIte, or_true, true_or, or_self, or_false, false_or]; rfl))
  have hK := c_X5_needStake l hlf g _ x cs i hW
  rw [if_pos q_2_0] at hK
  refine k_V0 hc [.int i] cw_X5_112 rfl dX5_seemsAgain_2 hK hW.o hM hS hl.1 rfl rfl ⟨Nat.le_of_ble_eq_true rfl, Nat.le_of_ble_eq_true rfl⟩ ⟨Nat.le_of_ble_eq_true rfl, Nat.le_of_ble_eq_true rfl⟩ (Nat.le_of_ble_eq_true rfl) (fun H locs hM hS => ?_)
  refine lv_aload_n hx hb dX5_seemsAgain_5 rfl (lv_at hl 0 rfl) ?_
  refine lv_iload_n hx hb dX5_seemsAgain_6 rfl (lv_at hl 2 rfl) ?_
  by_cases q_7_0 : rin 4 (cs 0 8 1) j
  rotate_left 1
  · skip
    have hK := c_X5_needPost l hlf g _ x cs j hW
    rw [if_neg q_7_0] at hK
    refine k_VX hc [.int j] cw_X5_125 rfl dX5_seemsAgain_7 hK hW.o hM hS hl.1 rfl rfl ⟨Nat.le_of_ble_eq_true rfl, Nat.le_of_ble_eq_true rfl⟩ ⟨Nat.le_of_ble_eq_true rfl, Nat.le_of_ble_eq_true rfl⟩ (Nat.le_of_ble_eq_true rfl) (fun H locs q9 ce hM hS h1 h2 h3 => ?_)
    exact k_out hc hnx hM hS (Nat.le_of_ble_eq_true rfl) (Nat.le_of_ble_eq_true rfl) h1 h2 h3 (by first | (simp only [eq_true q_2_0, eq_false q_7_0, not_false_eq_true, not_true_eq_false, and_true, true_and, and_false, false_and, and_self, ↓reduceIte, or_true, true_or, or_self, or_false, false_or]; done) | (simp only [eq_true q_2_0, eq_false q_7_0, not_false_eq_true, not_true_eq_false, and_true, true_and, and_false, false_and, and_self, ↓reduceIte, or_true, true_or, or_self, or_false, false_or]; rfl))
  have hK := c_X5_needPost l hlf g _ x cs j hW
  rw [if_pos q_7_0] at hK
  refine k_V0 hc [.int j] cw_X5_125 rfl dX5_seemsAgain_7 hK hW.o hM hS hl.1 rfl rfl ⟨Nat.le_of_ble_eq_true rfl, Nat.le_of_ble_eq_true rfl⟩ ⟨Nat.le_of_ble_eq_true rfl, Nat.le_of_ble_eq_true rfl⟩ (Nat.le_of_ble_eq_true rfl) (fun H locs hM hS => ?_)
  refine lv_aload_n hx hb dX5_seemsAgain_10 rfl (lv_at hl 0 rfl) ?_
  refine gt_X5_10 hc dX5_seemsAgain_11 hM hW.o rfl ?_
  refine lv_iload_n hx hb dX5_seemsAgain_14 rfl (lv_at hl 1 rfl) ?_
  refine lv_iload_n hx hb dX5_seemsAgain_15 rfl (lv_at hl 2 rfl) ?_
  refine k_V1 hc [.int i, .int j] cw_X5_182 rfl dX5_seemsAgain_16 (c_X0_walkedPlace l hlf g _ (x + 1) (cs 0) i j (hW.flat (k := 0) (a := x + 1) (by decide) rfl)) (hW.flat (k := 0) (a := x + 1) (by decide) rfl).o hM hS hl.1 rfl rfl ⟨Nat.le_of_ble_eq_true rfl, Nat.le_of_ble_eq_true rfl⟩ ⟨Nat.le_of_ble_eq_true rfl, Nat.le_of_ble_eq_true rfl⟩ (Nat.le_of_ble_eq_true rfl) (fun H locs hM hS => ?_)
  exact k_iret hc hr dX5_seemsAgain_19 hM hS (Nat.le_of_ble_eq_true rfl) (Nat.le_of_ble_eq_true rfl) (by first | (simp only [eq_true q_2_0, eq_true q_7_0, not_false_eq_true, not_true_eq_false, and_true, true_and, and_false, false_and, and_self, ↓reduceIte, or_true, true_or, or_self, or_false, false_or]; done) | (simp only [eq_true q_2_0, eq_true q_7_0, not_false_eq_true, not_true_eq_false, and_true, true_and, and_false, false_and, and_self, ↓reduceIte, or_true, true_or, or_self, or_false, false_or]; rfl))
set_option maxHeartbeats 4000000 in
set_option maxRecDepth 100000 in
theorem c_X5_shimmers (l : Launch) (hlf : l.stackTraces = false) (g : GC) (M : HM) (x : Nat) (cs : CS) (i : Int32) (j : Int32) (hW : ClsAt g M x cs) : KM g l yX5_shimmers cX5_shimmers 3 (some .boolean) 7 3 18 [.ref x, .int i, .int j] M (if rin 10 (cs 0 8 0) i then if rin 4 (cs 0 8 1) j then .inl (some (.int (bI (shimF (cs 0) i j (hNow (cs 0))))), M) else .inr ("java/lang/IndexOutOfBoundsException", M) else .inr ("java/lang/IndexOutOfBoundsException", M)) := by
  refine k_meth hlf (by decide) (Nat.le_of_ble_eq_true rfl) fun p e s m below meth c ls hc hr hnx hM hS hl => ?_
  have hc : Cx g p l s m [.ref x, .int i, .int j].toArray meth c cX5_shimmers 3 RX5 := hc
  have hx := hc.1
  have hb := hc.2.1
  have hl : lv_has ls 3 [(0, .ref x), (1, .int i), (2, .int j)] := hl
  refine lv_aload_n hx hb dX5_shimmers_0 rfl (lv_at hl 0 rfl) ?_
  refine lv_iload_n hx hb dX5_shimmers_1 rfl (lv_at hl 1 rfl) ?_
  by_cases q_2_0 : rin 10 (cs 0 8 0) i
  rotate_left 1
  · skip
    have hK := c_X5_needStake l hlf g _ x cs i hW
    rw [if_neg q_2_0] at hK
    refine k_VX hc [.int i] cw_X5_112 rfl dX5_shimmers_2 hK hW.o hM hS hl.1 rfl rfl ⟨Nat.le_of_ble_eq_true rfl, Nat.le_of_ble_eq_true rfl⟩ ⟨Nat.le_of_ble_eq_true rfl, Nat.le_of_ble_eq_true rfl⟩ (Nat.le_of_ble_eq_true rfl) (fun H locs q9 ce hM hS h1 h2 h3 => ?_)
    exact k_out hc hnx hM hS (Nat.le_of_ble_eq_true rfl) (Nat.le_of_ble_eq_true rfl) h1 h2 h3 (by first | (simp only [eq_false q_2_0, not_false_eq_true, not_true_eq_false, and_true, true_and, and_false, false_and, and_self, ↓reduceIte, or_true, true_or, or_self, or_false, false_or]; done) | (simp only [eq_false q_2_0, not_false_eq_true, not_true_eq_false, and_true, true_and, and_false, false_and, and_self, ↓reduceIte, or_true, true_or, or_self, or_false, false_or]; rfl))
  have hK := c_X5_needStake l hlf g _ x cs i hW
  rw [if_pos q_2_0] at hK
  refine k_V0 hc [.int i] cw_X5_112 rfl dX5_shimmers_2 hK hW.o hM hS hl.1 rfl rfl ⟨Nat.le_of_ble_eq_true rfl, Nat.le_of_ble_eq_true rfl⟩ ⟨Nat.le_of_ble_eq_true rfl, Nat.le_of_ble_eq_true rfl⟩ (Nat.le_of_ble_eq_true rfl) (fun H locs hM hS => ?_)
  refine lv_aload_n hx hb dX5_shimmers_5 rfl (lv_at hl 0 rfl) ?_
  refine lv_iload_n hx hb dX5_shimmers_6 rfl (lv_at hl 2 rfl) ?_
  by_cases q_7_0 : rin 4 (cs 0 8 1) j
  rotate_left 1
  · skip
    have hK := c_X5_needPost l hlf g _ x cs j hW
    rw [if_neg q_7_0] at hK
    refine k_VX hc [.int j] cw_X5_125 rfl dX5_shimmers_7 hK hW.o hM hS hl.1 rfl rfl ⟨Nat.le_of_ble_eq_true rfl, Nat.le_of_ble_eq_true rfl⟩ ⟨Nat.le_of_ble_eq_true rfl, Nat.le_of_ble_eq_true rfl⟩ (Nat.le_of_ble_eq_true rfl) (fun H locs q9 ce hM hS h1 h2 h3 => ?_)
    exact k_out hc hnx hM hS (Nat.le_of_ble_eq_true rfl) (Nat.le_of_ble_eq_true rfl) h1 h2 h3 (by first | (simp only [eq_true q_2_0, eq_false q_7_0, not_false_eq_true, not_true_eq_false, and_true, true_and, and_false, false_and, and_self, ↓reduceIte, or_true, true_or, or_self, or_false, false_or]; done) | (simp only [eq_true q_2_0, eq_false q_7_0, not_false_eq_true, not_true_eq_false, and_true, true_and, and_false, false_and, and_self, ↓reduceIte, or_true, true_or, or_self, or_false, false_or]; rfl))
  have hK := c_X5_needPost l hlf g _ x cs j hW
  rw [if_pos q_7_0] at hK
  refine k_V0 hc [.int j] cw_X5_125 rfl dX5_shimmers_7 hK hW.o hM hS hl.1 rfl rfl ⟨Nat.le_of_ble_eq_true rfl, Nat.le_of_ble_eq_true rfl⟩ ⟨Nat.le_of_ble_eq_true rfl, Nat.le_of_ble_eq_true rfl⟩ (Nat.le_of_ble_eq_true rfl) (fun H locs hM hS => ?_)
  refine lv_aload_n hx hb dX5_shimmers_10 rfl (lv_at hl 0 rfl) ?_
  refine gt_X5_10 hc dX5_shimmers_11 hM hW.o rfl ?_
  refine lv_iload_n hx hb dX5_shimmers_14 rfl (lv_at hl 1 rfl) ?_
  refine lv_iload_n hx hb dX5_shimmers_15 rfl (lv_at hl 2 rfl) ?_
  refine lv_aload_n hx hb dX5_shimmers_16 rfl (lv_at hl 0 rfl) ?_
  refine gt_X5_10 hc dX5_shimmers_17 hM hW.o rfl ?_
  refine k_V1 hc [] cw_X5_185 rfl dX5_shimmers_20 (c_X0_heatNow l hlf g _ (x + 1) (cs 0) (hW.flat (k := 0) (a := x + 1) (by decide) rfl)) (hW.flat (k := 0) (a := x + 1) (by decide) rfl).o hM hS hl.1 rfl rfl ⟨Nat.le_of_ble_eq_true rfl, Nat.le_of_ble_eq_true rfl⟩ ⟨Nat.le_of_ble_eq_true rfl, Nat.le_of_ble_eq_true rfl⟩ (Nat.le_of_ble_eq_true rfl) (fun H locs hM hS => ?_)
  refine k_V1 hc [.int i, .int j, .int (hNow (cs 0))] cw_X5_188 rfl dX5_shimmers_23 (c_X0_isShimmering l hlf g _ (x + 1) (cs 0) i j (hNow (cs 0)) (hW.flat (k := 0) (a := x + 1) (by decide) rfl)) (hW.flat (k := 0) (a := x + 1) (by decide) rfl).o hM hS hl.1 rfl rfl ⟨Nat.le_of_ble_eq_true rfl, Nat.le_of_ble_eq_true rfl⟩ ⟨Nat.le_of_ble_eq_true rfl, Nat.le_of_ble_eq_true rfl⟩ (Nat.le_of_ble_eq_true rfl) (fun H locs hM hS => ?_)
  exact k_zret hc hr dX5_shimmers_26 hM hS bI_n (Nat.le_of_ble_eq_true rfl) (Nat.le_of_ble_eq_true rfl) (by first | (simp only [eq_true q_2_0, eq_true q_7_0, not_false_eq_true, not_true_eq_false, and_true, true_and, and_false, false_and, and_self, ↓reduceIte, or_true, true_or, or_self, or_false, false_or]; done) | (simp only [eq_true q_2_0, eq_true q_7_0, not_false_eq_true, not_true_eq_false, and_true, true_and, and_false, false_and, and_self, ↓reduceIte, or_true, true_or, or_self, or_false, false_or]; rfl))
set_option maxHeartbeats 4000000 in
set_option maxRecDepth 100000 in
theorem c_X5_bestPost (l : Launch) (hlf : l.stackTraces = false) (g : GC) (M : HM) (x : Nat) (cs : CS) (i : Int32) (hW : ClsAt g M x cs) : KM g l yX5_bestPost cX5_bestPost 3 (some .int) 10 3 18 [.ref x, .int i] M (if rin 10 (cs 0 8 0) i then if ¬ bestF (cs 0) i = -1 then .inl (some (.int (bestF (cs 0) i)), M) else .inr ("java/util/NoSuchElementException", M) else .inr ("java/lang/IndexOutOfBoundsException", M)) := by
  refine k_meth hlf (by decide) (Nat.le_of_ble_eq_true rfl) fun p e s m below meth c ls hc hr hnx hM hS hl => ?_
  have hc : Cx g p l s m [.ref x, .int i].toArray meth c cX5_bestPost 3 RX5 := hc
  have hx := hc.1
  have hb := hc.2.1
  have hl : lv_has ls 3 [(0, .ref x), (1, .int i)] := hl
  refine lv_aload_n hx hb dX5_bestPost_0 rfl (lv_at hl 0 rfl) ?_
  refine lv_iload_n hx hb dX5_bestPost_1 rfl (lv_at hl 1 rfl) ?_
  by_cases q_2_0 : rin 10 (cs 0 8 0) i
  rotate_left 1
  · skip
    have hK := c_X5_needStake l hlf g _ x cs i hW
    rw [if_neg q_2_0] at hK
    refine k_VX hc [.int i] cw_X5_112 rfl dX5_bestPost_2 hK hW.o hM hS hl.1 rfl rfl ⟨Nat.le_of_ble_eq_true rfl, Nat.le_of_ble_eq_true rfl⟩ ⟨Nat.le_of_ble_eq_true rfl, Nat.le_of_ble_eq_true rfl⟩ (Nat.le_of_ble_eq_true rfl) (fun H locs q9 ce hM hS h1 h2 h3 => ?_)
    exact k_out hc hnx hM hS (Nat.le_of_ble_eq_true rfl) (Nat.le_of_ble_eq_true rfl) h1 h2 h3 (by first | (simp only [eq_false q_2_0, not_false_eq_true, not_true_eq_false, and_true, true_and, and_false, false_and, and_self, ↓reduceIte, or_true, true_or, or_self, or_false, false_or]; done) | (simp only [eq_false q_2_0, not_false_eq_true, not_true_eq_false, and_true, true_and, and_false, false_and, and_self, ↓reduceIte, or_true, true_or, or_self, or_false, false_or]; rfl))
  have hK := c_X5_needStake l hlf g _ x cs i hW
  rw [if_pos q_2_0] at hK
  refine k_V0 hc [.int i] cw_X5_112 rfl dX5_bestPost_2 hK hW.o hM hS hl.1 rfl rfl ⟨Nat.le_of_ble_eq_true rfl, Nat.le_of_ble_eq_true rfl⟩ ⟨Nat.le_of_ble_eq_true rfl, Nat.le_of_ble_eq_true rfl⟩ (Nat.le_of_ble_eq_true rfl) (fun H locs hM hS => ?_)
  refine lv_aload_n hx hb dX5_bestPost_5 rfl (lv_at hl 0 rfl) ?_
  refine gt_X5_10 hc dX5_bestPost_6 hM hW.o rfl ?_
  refine lv_iload_n hx hb dX5_bestPost_9 rfl (lv_at hl 1 rfl) ?_
  refine k_V1 hc [.int i] cw_X5_192 rfl dX5_bestPost_10 (c_X0_clearestPost l hlf g _ (x + 1) (cs 0) i (hW.flat (k := 0) (a := x + 1) (by decide) rfl)) (hW.flat (k := 0) (a := x + 1) (by decide) rfl).o hM hS hl.1 rfl rfl ⟨Nat.le_of_ble_eq_true rfl, Nat.le_of_ble_eq_true rfl⟩ ⟨Nat.le_of_ble_eq_true rfl, Nat.le_of_ble_eq_true rfl⟩ (Nat.le_of_ble_eq_true rfl) (fun H locs hM hS => ?_)
  refine lv_istore_n (lv' := [(2, .int (bestF (cs 0) i)), (0, .ref x), (1, .int i)]) hx hb dX5_bestPost_13 rfl hl (by decide) rfl (fun ls hl => ?_)
  refine lv_iload_n hx hb dX5_bestPost_14 rfl (lv_at hl 0 rfl) ?_
  refine lv_iconst (v := (-1)) hx hb dX5_bestPost_15 (by decide) ?_
  refine lv_icmp_ne (tgt := 29) hx hb dX5_bestPost_16 (by decide) (fun c_16 => ?_) (fun c_16 => ?_)
  · skip
    refine lv_iload_n hx hb dX5_bestPost_29 rfl (lv_at hl 0 rfl) ?_
    exact k_iret hc hr dX5_bestPost_30 hM hS (Nat.le_of_ble_eq_true rfl) (Nat.le_of_ble_eq_true rfl) (by first | (simp only [eq_true q_2_0, eq_false c_16, not_false_eq_true, not_true_eq_false, and_true, true_and, and_false, false_and, and_self, ↓reduceIte, or_true, true_or, or_self, or_false, false_or]; done) | (simp only [eq_true q_2_0, eq_false c_16, not_false_eq_true, not_true_eq_false, and_true, true_and, and_false, false_and, and_self, ↓reduceIte, or_true, true_or, or_self, or_false, false_or]; rfl))
  · skip
    exact k_throwN hc hnx 17 tx_17 hM hS hl.1 dX5_bestPost_19 dX5_bestPost_22 dX5_bestPost_23 dX5_bestPost_25 dX5_bestPost_28 ⟨Nat.le_of_ble_eq_true rfl, Nat.le_of_ble_eq_true rfl, Nat.le_of_ble_eq_true rfl, Nat.le_of_ble_eq_true rfl⟩ (Nat.le_of_ble_eq_true rfl) (Nat.le_of_ble_eq_true rfl) (by first | (simp only [eq_true q_2_0, eq_true c_16, not_false_eq_true, not_true_eq_false, and_true, true_and, and_false, false_and, and_self, ↓reduceIte, or_true, true_or, or_self, or_false, false_or]; done) | (simp only [eq_true q_2_0, eq_true c_16, not_false_eq_true, not_true_eq_false, and_true, true_and, and_false, false_and, and_self, ↓reduceIte, or_true, true_or, or_self, or_false, false_or]; rfl))
set_option maxHeartbeats 4000000 in
set_option maxRecDepth 100000 in
theorem c_X5_clearIn (l : Launch) (hlf : l.stackTraces = false) (g : GC) (M : HM) (x : Nat) (cs : CS) (i : Int32) (j : Int32) (hW : ClsAt g M x cs) : KM g l yX5_clearIn cX5_clearIn 4 (some .int) 8 3 18 [.ref x, .int i, .int j] M (if rin 10 (cs 0 8 0) i then if rin 4 (cs 0 8 1) j then if ¬ clearF (cs 0) i j = -1 then .inl (some (.int (clearF (cs 0) i j)), M) else .inr ("java/util/NoSuchElementException", M) else .inr ("java/lang/IndexOutOfBoundsException", M) else .inr ("java/lang/IndexOutOfBoundsException", M)) := by
  refine k_meth hlf (by decide) (Nat.le_of_ble_eq_true rfl) fun p e s m below meth c ls hc hr hnx hM hS hl => ?_
  have hc : Cx g p l s m [.ref x, .int i, .int j].toArray meth c cX5_clearIn 4 RX5 := hc
  have hx := hc.1
  have hb := hc.2.1
  have hl : lv_has ls 4 [(0, .ref x), (1, .int i), (2, .int j)] := hl
  refine lv_aload_n hx hb dX5_clearIn_0 rfl (lv_at hl 0 rfl) ?_
  refine lv_iload_n hx hb dX5_clearIn_1 rfl (lv_at hl 1 rfl) ?_
  by_cases q_2_0 : rin 10 (cs 0 8 0) i
  rotate_left 1
  · skip
    have hK := c_X5_needStake l hlf g _ x cs i hW
    rw [if_neg q_2_0] at hK
    refine k_VX hc [.int i] cw_X5_112 rfl dX5_clearIn_2 hK hW.o hM hS hl.1 rfl rfl ⟨Nat.le_of_ble_eq_true rfl, Nat.le_of_ble_eq_true rfl⟩ ⟨Nat.le_of_ble_eq_true rfl, Nat.le_of_ble_eq_true rfl⟩ (Nat.le_of_ble_eq_true rfl) (fun H locs q9 ce hM hS h1 h2 h3 => ?_)
    exact k_out hc hnx hM hS (Nat.le_of_ble_eq_true rfl) (Nat.le_of_ble_eq_true rfl) h1 h2 h3 (by first | (simp only [eq_false q_2_0, not_false_eq_true, not_true_eq_false, and_true, true_and, and_false, false_and, and_self, ↓reduceIte, or_true, true_or, or_self, or_false, false_or]; done) | (simp only [eq_false q_2_0, not_false_eq_true, not_true_eq_false, and_true, true_and, and_false, false_and, and_self, ↓reduceIte, or_true, true_or, or_self, or_false, false_or]; rfl))
  have hK := c_X5_needStake l hlf g _ x cs i hW
  rw [if_pos q_2_0] at hK
  refine k_V0 hc [.int i] cw_X5_112 rfl dX5_clearIn_2 hK hW.o hM hS hl.1 rfl rfl ⟨Nat.le_of_ble_eq_true rfl, Nat.le_of_ble_eq_true rfl⟩ ⟨Nat.le_of_ble_eq_true rfl, Nat.le_of_ble_eq_true rfl⟩ (Nat.le_of_ble_eq_true rfl) (fun H locs hM hS => ?_)
  refine lv_aload_n hx hb dX5_clearIn_5 rfl (lv_at hl 0 rfl) ?_
  refine lv_iload_n hx hb dX5_clearIn_6 rfl (lv_at hl 2 rfl) ?_
  by_cases q_7_0 : rin 4 (cs 0 8 1) j
  rotate_left 1
  · skip
    have hK := c_X5_needPost l hlf g _ x cs j hW
    rw [if_neg q_7_0] at hK
    refine k_VX hc [.int j] cw_X5_125 rfl dX5_clearIn_7 hK hW.o hM hS hl.1 rfl rfl ⟨Nat.le_of_ble_eq_true rfl, Nat.le_of_ble_eq_true rfl⟩ ⟨Nat.le_of_ble_eq_true rfl, Nat.le_of_ble_eq_true rfl⟩ (Nat.le_of_ble_eq_true rfl) (fun H locs q9 ce hM hS h1 h2 h3 => ?_)
    exact k_out hc hnx hM hS (Nat.le_of_ble_eq_true rfl) (Nat.le_of_ble_eq_true rfl) h1 h2 h3 (by first | (simp only [eq_true q_2_0, eq_false q_7_0, not_false_eq_true, not_true_eq_false, and_true, true_and, and_false, false_and, and_self, ↓reduceIte, or_true, true_or, or_self, or_false, false_or]; done) | (simp only [eq_true q_2_0, eq_false q_7_0, not_false_eq_true, not_true_eq_false, and_true, true_and, and_false, false_and, and_self, ↓reduceIte, or_true, true_or, or_self, or_false, false_or]; rfl))
  have hK := c_X5_needPost l hlf g _ x cs j hW
  rw [if_pos q_7_0] at hK
  refine k_V0 hc [.int j] cw_X5_125 rfl dX5_clearIn_7 hK hW.o hM hS hl.1 rfl rfl ⟨Nat.le_of_ble_eq_true rfl, Nat.le_of_ble_eq_true rfl⟩ ⟨Nat.le_of_ble_eq_true rfl, Nat.le_of_ble_eq_true rfl⟩ (Nat.le_of_ble_eq_true rfl) (fun H locs hM hS => ?_)
  refine lv_aload_n hx hb dX5_clearIn_10 rfl (lv_at hl 0 rfl) ?_
  refine gt_X5_10 hc dX5_clearIn_11 hM hW.o rfl ?_
  refine lv_iload_n hx hb dX5_clearIn_14 rfl (lv_at hl 1 rfl) ?_
  refine lv_iload_n hx hb dX5_clearIn_15 rfl (lv_at hl 2 rfl) ?_
  refine k_V1 hc [.int i, .int j] cw_X5_197 rfl dX5_clearIn_16 (c_X0_hoursUntilClear l hlf g _ (x + 1) (cs 0) i j (hW.flat (k := 0) (a := x + 1) (by decide) rfl)) (hW.flat (k := 0) (a := x + 1) (by decide) rfl).o hM hS hl.1 rfl rfl ⟨Nat.le_of_ble_eq_true rfl, Nat.le_of_ble_eq_true rfl⟩ ⟨Nat.le_of_ble_eq_true rfl, Nat.le_of_ble_eq_true rfl⟩ (Nat.le_of_ble_eq_true rfl) (fun H locs hM hS => ?_)
  refine lv_istore_n (lv' := [(3, .int (clearF (cs 0) i j)), (0, .ref x), (1, .int i), (2, .int j)]) hx hb dX5_clearIn_19 rfl hl (by decide) rfl (fun ls hl => ?_)
  refine lv_iload_n hx hb dX5_clearIn_20 rfl (lv_at hl 0 rfl) ?_
  refine lv_iconst (v := (-1)) hx hb dX5_clearIn_21 (by decide) ?_
  refine lv_icmp_ne (tgt := 35) hx hb dX5_clearIn_22 (by decide) (fun c_22 => ?_) (fun c_22 => ?_)
  · skip
    refine lv_iload_n hx hb dX5_clearIn_35 rfl (lv_at hl 0 rfl) ?_
    exact k_iret hc hr dX5_clearIn_36 hM hS (Nat.le_of_ble_eq_true rfl) (Nat.le_of_ble_eq_true rfl) (by first | (simp only [eq_true q_2_0, eq_true q_7_0, eq_false c_22, not_false_eq_true, not_true_eq_false, and_true, true_and, and_false, false_and, and_self, ↓reduceIte, or_true, true_or, or_self, or_false, false_or]; done) | (simp only [eq_true q_2_0, eq_true q_7_0, eq_false c_22, not_false_eq_true, not_true_eq_false, and_true, true_and, and_false, false_and, and_self, ↓reduceIte, or_true, true_or, or_self, or_false, false_or]; rfl))
  · skip
    exact k_throwN hc hnx 18 tx_18 hM hS hl.1 dX5_clearIn_25 dX5_clearIn_28 dX5_clearIn_29 dX5_clearIn_31 dX5_clearIn_34 ⟨Nat.le_of_ble_eq_true rfl, Nat.le_of_ble_eq_true rfl, Nat.le_of_ble_eq_true rfl, Nat.le_of_ble_eq_true rfl⟩ (Nat.le_of_ble_eq_true rfl) (Nat.le_of_ble_eq_true rfl) (by first | (simp only [eq_true q_2_0, eq_true q_7_0, eq_true c_22, not_false_eq_true, not_true_eq_false, and_true, true_and, and_false, false_and, and_self, ↓reduceIte, or_true, true_or, or_self, or_false, false_or]; done) | (simp only [eq_true q_2_0, eq_true q_7_0, eq_true c_22, not_false_eq_true, not_true_eq_false, and_true, true_and, and_false, false_and, and_self, ↓reduceIte, or_true, true_or, or_self, or_false, false_or]; rfl))
set_option maxHeartbeats 4000000 in
set_option maxRecDepth 100000 in
theorem c_X5_heatIn (l : Launch) (hlf : l.stackTraces = false) (g : GC) (M : HM) (x : Nat) (cs : CS) (i : Int32) (hW : ClsAt g M x cs) : KM g l yX5_heatIn cX5_heatIn 2 (some .int) 6 3 18 [.ref x, .int i] M (if ¬ i < 0 ∧ i < 48 then .inl (some (.int (heatI (cs 0 9 2) (cs 0 9 1 + i))), M) else .inr ("java/lang/IllegalArgumentException", M)) := by
  refine k_meth hlf (by decide) (Nat.le_of_ble_eq_true rfl) fun p e s m below meth c ls hc hr hnx hM hS hl => ?_
  have hc : Cx g p l s m [.ref x, .int i].toArray meth c cX5_heatIn 2 RX5 := hc
  have hx := hc.1
  have hb := hc.2.1
  have hl : lv_has ls 2 [(0, .ref x), (1, .int i)] := hl
  refine lv_iload_n hx hb dX5_heatIn_0 rfl (lv_at hl 1 rfl) ?_
  refine lv_if_lt (tgt := 10) hx hb dX5_heatIn_1 (by decide) (fun c_1 => ?_) (fun c_1 => ?_)
  · skip
    exact k_throw hc hnx th_IllegalArgumentException 19 tx_19 hM hS hl.1 dX5_heatIn_10 dX5_heatIn_13 dX5_heatIn_14 dX5_heatIn_16 dX5_heatIn_19 ⟨Nat.le_of_ble_eq_true rfl, Nat.le_of_ble_eq_true rfl, Nat.le_of_ble_eq_true rfl, Nat.le_of_ble_eq_true rfl⟩ (Nat.le_of_ble_eq_true rfl) (Nat.le_of_ble_eq_true rfl) (by first | (simp only [eq_true c_1, not_false_eq_true, not_true_eq_false, and_true, true_and, and_false, false_and, and_self, ↓reduceIte, or_true, true_or, or_self, or_false, false_or]; done) | (simp only [eq_true c_1, not_false_eq_true, not_true_eq_false, and_true, true_and, and_false, false_and, and_self, ↓reduceIte, or_true, true_or, or_self, or_false, false_or]; rfl))
  · skip
    refine lv_iload_n hx hb dX5_heatIn_4 rfl (lv_at hl 1 rfl) ?_
    refine lv_bipush (v := 48) hx hb dX5_heatIn_5 (by decide) ?_
    refine lv_icmp_lt (tgt := 20) hx hb dX5_heatIn_7 (by decide) (fun c_7 => ?_) (fun c_7 => ?_)
    · skip
      refine lv_aload_n hx hb dX5_heatIn_20 rfl (lv_at hl 0 rfl) ?_
      refine gt_X5_10 hc dX5_heatIn_21 hM hW.o rfl ?_
      refine lv_aload_n hx hb dX5_heatIn_24 rfl (lv_at hl 0 rfl) ?_
      refine gt_X5_10 hc dX5_heatIn_25 hM hW.o rfl ?_
      refine gt_X5_204 hc dX5_heatIn_28 hM (hW.flat (k := 0) (a := x + 1) (by decide) rfl).o rfl ?_
      refine lv_iload_n hx hb dX5_heatIn_31 rfl (lv_at hl 1 rfl) ?_
      refine lv_iadd hx hb dX5_heatIn_32 ?_
      refine k_V1 hc [.int ((cs 0 9 1) + i)] cw_X5_207 rfl dX5_heatIn_33 (c_X0_heatAt l hlf g _ (x + 1) (cs 0) ((cs 0 9 1) + i) (hW.flat (k := 0) (a := x + 1) (by decide) rfl)) (hW.flat (k := 0) (a := x + 1) (by decide) rfl).o hM hS hl.1 rfl rfl ⟨Nat.le_of_ble_eq_true rfl, Nat.le_of_ble_eq_true rfl⟩ ⟨Nat.le_of_ble_eq_true rfl, Nat.le_of_ble_eq_true rfl⟩ (Nat.le_of_ble_eq_true rfl) (fun H locs hM hS => ?_)
      exact k_iret hc hr dX5_heatIn_36 hM hS (Nat.le_of_ble_eq_true rfl) (Nat.le_of_ble_eq_true rfl) (by first | (simp only [eq_false c_1, eq_true c_7, not_false_eq_true, not_true_eq_false, and_true, true_and, and_false, false_and, and_self, ↓reduceIte, or_true, true_or, or_self, or_false, false_or]; done) | (simp only [eq_false c_1, eq_true c_7, not_false_eq_true, not_true_eq_false, and_true, true_and, and_false, false_and, and_self, ↓reduceIte, or_true, true_or, or_self, or_false, false_or]; rfl))
    · skip
      exact k_throw hc hnx th_IllegalArgumentException 19 tx_19 hM hS hl.1 dX5_heatIn_10 dX5_heatIn_13 dX5_heatIn_14 dX5_heatIn_16 dX5_heatIn_19 ⟨Nat.le_of_ble_eq_true rfl, Nat.le_of_ble_eq_true rfl, Nat.le_of_ble_eq_true rfl, Nat.le_of_ble_eq_true rfl⟩ (Nat.le_of_ble_eq_true rfl) (Nat.le_of_ble_eq_true rfl) (by first | (simp only [eq_false c_1, eq_false c_7, not_false_eq_true, not_true_eq_false, and_true, true_and, and_false, false_and, and_self, ↓reduceIte, or_true, true_or, or_self, or_false, false_or]; done) | (simp only [eq_false c_1, eq_false c_7, not_false_eq_true, not_true_eq_false, and_true, true_and, and_false, false_and, and_self, ↓reduceIte, or_true, true_or, or_self, or_false, false_or]; rfl))
set_option maxHeartbeats 4000000 in
set_option maxRecDepth 100000 in
theorem c_X5_lostIn (l : Launch) (hlf : l.stackTraces = false) (g : GC) (M : HM) (x : Nat) (cs : CS) (i : Int32) (hW : ClsAt g M x cs) : KM g l yX5_lostIn cX5_lostIn 3 (some .int) 7 3 18 [.ref x, .int i] M (if rin 6 (cs 0 8 4) i then if ¬ lostF (cs 0) i = -1 then .inl (some (.int (lostF (cs 0) i)), M) else .inr ("java/util/NoSuchElementException", M) else .inr ("java/lang/IndexOutOfBoundsException", M)) := by
  refine k_meth hlf (by decide) (Nat.le_of_ble_eq_true rfl) fun p e s m below meth c ls hc hr hnx hM hS hl => ?_
  have hc : Cx g p l s m [.ref x, .int i].toArray meth c cX5_lostIn 3 RX5 := hc
  have hx := hc.1
  have hb := hc.2.1
  have hl : lv_has ls 3 [(0, .ref x), (1, .int i)] := hl
  refine lv_aload_n hx hb dX5_lostIn_0 rfl (lv_at hl 0 rfl) ?_
  refine lv_iload_n hx hb dX5_lostIn_1 rfl (lv_at hl 1 rfl) ?_
  by_cases q_2_0 : rin 6 (cs 0 8 4) i
  rotate_left 1
  · skip
    have hK := c_X5_needCamel l hlf g _ x cs i hW
    rw [if_neg q_2_0] at hK
    refine k_VX hc [.int i] cw_X5_134 rfl dX5_lostIn_2 hK hW.o hM hS hl.1 rfl rfl ⟨Nat.le_of_ble_eq_true rfl, Nat.le_of_ble_eq_true rfl⟩ ⟨Nat.le_of_ble_eq_true rfl, Nat.le_of_ble_eq_true rfl⟩ (Nat.le_of_ble_eq_true rfl) (fun H locs q9 ce hM hS h1 h2 h3 => ?_)
    exact k_out hc hnx hM hS (Nat.le_of_ble_eq_true rfl) (Nat.le_of_ble_eq_true rfl) h1 h2 h3 (by first | (simp only [eq_false q_2_0, not_false_eq_true, not_true_eq_false, and_true, true_and, and_false, false_and, and_self, ↓reduceIte, or_true, true_or, or_self, or_false, false_or]; done) | (simp only [eq_false q_2_0, not_false_eq_true, not_true_eq_false, and_true, true_and, and_false, false_and, and_self, ↓reduceIte, or_true, true_or, or_self, or_false, false_or]; rfl))
  have hK := c_X5_needCamel l hlf g _ x cs i hW
  rw [if_pos q_2_0] at hK
  refine k_V0 hc [.int i] cw_X5_134 rfl dX5_lostIn_2 hK hW.o hM hS hl.1 rfl rfl ⟨Nat.le_of_ble_eq_true rfl, Nat.le_of_ble_eq_true rfl⟩ ⟨Nat.le_of_ble_eq_true rfl, Nat.le_of_ble_eq_true rfl⟩ (Nat.le_of_ble_eq_true rfl) (fun H locs hM hS => ?_)
  refine lv_aload_n hx hb dX5_lostIn_5 rfl (lv_at hl 0 rfl) ?_
  refine gt_X5_10 hc dX5_lostIn_6 hM hW.o rfl ?_
  refine lv_iload_n hx hb dX5_lostIn_9 rfl (lv_at hl 1 rfl) ?_
  refine k_V1 hc [.int i] cw_X5_210 rfl dX5_lostIn_10 (c_X0_hoursUntilLost l hlf g _ (x + 1) (cs 0) i (hW.flat (k := 0) (a := x + 1) (by decide) rfl)) (hW.flat (k := 0) (a := x + 1) (by decide) rfl).o hM hS hl.1 rfl rfl ⟨Nat.le_of_ble_eq_true rfl, Nat.le_of_ble_eq_true rfl⟩ ⟨Nat.le_of_ble_eq_true rfl, Nat.le_of_ble_eq_true rfl⟩ (Nat.le_of_ble_eq_true rfl) (fun H locs hM hS => ?_)
  refine lv_istore_n (lv' := [(2, .int (lostF (cs 0) i)), (0, .ref x), (1, .int i)]) hx hb dX5_lostIn_13 rfl hl (by decide) rfl (fun ls hl => ?_)
  refine lv_iload_n hx hb dX5_lostIn_14 rfl (lv_at hl 0 rfl) ?_
  refine lv_iconst (v := (-1)) hx hb dX5_lostIn_15 (by decide) ?_
  refine lv_icmp_ne (tgt := 29) hx hb dX5_lostIn_16 (by decide) (fun c_16 => ?_) (fun c_16 => ?_)
  · skip
    refine lv_iload_n hx hb dX5_lostIn_29 rfl (lv_at hl 0 rfl) ?_
    exact k_iret hc hr dX5_lostIn_30 hM hS (Nat.le_of_ble_eq_true rfl) (Nat.le_of_ble_eq_true rfl) (by first | (simp only [eq_true q_2_0, eq_false c_16, not_false_eq_true, not_true_eq_false, and_true, true_and, and_false, false_and, and_self, ↓reduceIte, or_true, true_or, or_self, or_false, false_or]; done) | (simp only [eq_true q_2_0, eq_false c_16, not_false_eq_true, not_true_eq_false, and_true, true_and, and_false, false_and, and_self, ↓reduceIte, or_true, true_or, or_self, or_false, false_or]; rfl))
  · skip
    exact k_throwN hc hnx 20 tx_20 hM hS hl.1 dX5_lostIn_19 dX5_lostIn_22 dX5_lostIn_23 dX5_lostIn_25 dX5_lostIn_28 ⟨Nat.le_of_ble_eq_true rfl, Nat.le_of_ble_eq_true rfl, Nat.le_of_ble_eq_true rfl, Nat.le_of_ble_eq_true rfl⟩ (Nat.le_of_ble_eq_true rfl) (Nat.le_of_ble_eq_true rfl) (by first | (simp only [eq_true q_2_0, eq_true c_16, not_false_eq_true, not_true_eq_false, and_true, true_and, and_false, false_and, and_self, ↓reduceIte, or_true, true_or, or_self, or_false, false_or]; done) | (simp only [eq_true q_2_0, eq_true c_16, not_false_eq_true, not_true_eq_false, and_true, true_and, and_false, false_and, and_self, ↓reduceIte, or_true, true_or, or_self, or_false, false_or]; rfl))
set_option maxHeartbeats 4000000 in
set_option maxRecDepth 100000 in
theorem c_X5_nearest (l : Launch) (hlf : l.stackTraces = false) (g : GC) (M : HM) (x : Nat) (cs : CS) (i : Int32) (hW : ClsAt g M x cs) : KM g l yX5_nearest cX5_nearest 3 (some .int) 7 3 18 [.ref x, .int i] M (if isPl i then if ¬ ncF (cs 0) i = -1 then .inl (some (.int (ncF (cs 0) i)), M) else .inr ("java/util/NoSuchElementException", M) else .inr ("java/lang/IllegalArgumentException", M)) := by
  refine k_meth hlf (by decide) (Nat.le_of_ble_eq_true rfl) fun p e s m below meth c ls hc hr hnx hM hS hl => ?_
  have hc : Cx g p l s m [.ref x, .int i].toArray meth c cX5_nearest 3 RX5 := hc
  have hx := hc.1
  have hb := hc.2.1
  have hl : lv_has ls 3 [(0, .ref x), (1, .int i)] := hl
  refine lv_iload_n hx hb dX5_nearest_0 rfl (lv_at hl 1 rfl) ?_
  refine k_S1 hc [.int i] cw_X5_215 dX5_nearest_1 (c_X5_isPlace l hlf g _ i) hM hS hl.1 rfl rfl ⟨Nat.le_of_ble_eq_true rfl, Nat.le_of_ble_eq_true rfl⟩ ⟨Nat.le_of_ble_eq_true rfl, Nat.le_of_ble_eq_true rfl⟩ (Nat.le_of_ble_eq_true rfl) (fun H locs hM hS => ?_)
  refine lv_if_ne (tgt := 17) hx hb dX5_nearest_4 (by decide) (fun c_4 => ?_) (fun c_4 => ?_)
  · skip
    have c_4 := bI_ne.mp c_4
    refine lv_aload_n hx hb dX5_nearest_17 rfl (lv_at hl 0 rfl) ?_
    refine gt_X5_10 hc dX5_nearest_18 hM hW.o rfl ?_
    refine lv_iload_n hx hb dX5_nearest_21 rfl (lv_at hl 1 rfl) ?_
    refine k_V1 hc [.int i] cw_X5_220 rfl dX5_nearest_22 (c_X0_nearestCamel l hlf g _ (x + 1) (cs 0) i (hW.flat (k := 0) (a := x + 1) (by decide) rfl)) (hW.flat (k := 0) (a := x + 1) (by decide) rfl).o hM hS hl.1 rfl rfl ⟨Nat.le_of_ble_eq_true rfl, Nat.le_of_ble_eq_true rfl⟩ ⟨Nat.le_of_ble_eq_true rfl, Nat.le_of_ble_eq_true rfl⟩ (Nat.le_of_ble_eq_true rfl) (fun H locs hM hS => ?_)
    refine lv_istore_n (lv' := [(2, .int (ncF (cs 0) i)), (0, .ref x), (1, .int i)]) hx hb dX5_nearest_25 rfl hl (by decide) rfl (fun ls hl => ?_)
    refine lv_iload_n hx hb dX5_nearest_26 rfl (lv_at hl 0 rfl) ?_
    refine lv_iconst (v := (-1)) hx hb dX5_nearest_27 (by decide) ?_
    refine lv_icmp_ne (tgt := 41) hx hb dX5_nearest_28 (by decide) (fun c_28 => ?_) (fun c_28 => ?_)
    · skip
      refine lv_iload_n hx hb dX5_nearest_41 rfl (lv_at hl 0 rfl) ?_
      exact k_iret hc hr dX5_nearest_42 hM hS (Nat.le_of_ble_eq_true rfl) (Nat.le_of_ble_eq_true rfl) (by first | (simp only [eq_true c_4, eq_false c_28, not_false_eq_true, not_true_eq_false, and_true, true_and, and_false, false_and, and_self, ↓reduceIte, or_true, true_or, or_self, or_false, false_or]; done) | (simp only [eq_true c_4, eq_false c_28, not_false_eq_true, not_true_eq_false, and_true, true_and, and_false, false_and, and_self, ↓reduceIte, or_true, true_or, or_self, or_false, false_or]; rfl))
    · skip
      exact k_throwN hc hnx 22 tx_22 hM hS hl.1 dX5_nearest_31 dX5_nearest_34 dX5_nearest_35 dX5_nearest_37 dX5_nearest_40 ⟨Nat.le_of_ble_eq_true rfl, Nat.le_of_ble_eq_true rfl, Nat.le_of_ble_eq_true rfl, Nat.le_of_ble_eq_true rfl⟩ (Nat.le_of_ble_eq_true rfl) (Nat.le_of_ble_eq_true rfl) (by first | (simp only [eq_true c_4, eq_true c_28, not_false_eq_true, not_true_eq_false, and_true, true_and, and_false, false_and, and_self, ↓reduceIte, or_true, true_or, or_self, or_false, false_or]; done) | (simp only [eq_true c_4, eq_true c_28, not_false_eq_true, not_true_eq_false, and_true, true_and, and_false, false_and, and_self, ↓reduceIte, or_true, true_or, or_self, or_false, false_or]; rfl))
  · skip
    have c_4 := bI_eq.mp c_4
    exact k_throw hc hnx th_IllegalArgumentException 21 tx_21 hM hS hl.1 dX5_nearest_7 dX5_nearest_10 dX5_nearest_11 dX5_nearest_13 dX5_nearest_16 ⟨Nat.le_of_ble_eq_true rfl, Nat.le_of_ble_eq_true rfl, Nat.le_of_ble_eq_true rfl, Nat.le_of_ble_eq_true rfl⟩ (Nat.le_of_ble_eq_true rfl) (Nat.le_of_ble_eq_true rfl) (by first | (simp only [eq_false c_4, not_false_eq_true, not_true_eq_false, and_true, true_and, and_false, false_and, and_self, ↓reduceIte, or_true, true_or, or_self, or_false, false_or]; done) | (simp only [eq_false c_4, not_false_eq_true, not_true_eq_false, and_true, true_and, and_false, false_and, and_self, ↓reduceIte, or_true, true_or, or_self, or_false, false_or]; rfl))
set_option maxHeartbeats 4000000 in
set_option maxRecDepth 100000 in
theorem c_X5_append (l : Launch) (hlf : l.stackTraces = false) (g : GC) (M : HM) (x : Nat) (cs : CS) (v : Int32) (hW : ClsAt g M x cs) (hv : chOk v) : KM g l yX5_append cX5_append 2 (some .int) 6 3 18 [.ref x, .int v] M (if cs 11 3 1 < nI 60 then .inl (some (.int (tpS cs v 11 3 1)), (putC g M x (tpS cs v))) else .inr ("java/lang/IllegalStateException", M)) := by
  refine k_meth hlf (by decide) (Nat.le_of_ble_eq_true rfl) fun p e s m below meth c ls hc hr hnx hM hS hl => ?_
  have hc : Cx g p l s m [.ref x, .int v].toArray meth c cX5_append 2 RX5 := hc
  have hx := hc.1
  have hb := hc.2.1
  have hl : lv_has ls 2 [(0, .ref x), (1, .int v)] := hl
  refine lv_aload_n hx hb dX5_append_0 rfl (lv_at hl 0 rfl) ?_
  refine gt_X5_32 hc dX5_append_1 hM hW.o rfl ?_
  refine k_V1 hc [] cw_X5_225 rfl dX5_append_4 (c_X4_isFull l hlf g _ x cs hW) hW.te hM hS hl.1 rfl rfl ⟨Nat.le_of_ble_eq_true rfl, Nat.le_of_ble_eq_true rfl⟩ ⟨Nat.le_of_ble_eq_true rfl, Nat.le_of_ble_eq_true rfl⟩ (Nat.le_of_ble_eq_true rfl) (fun H locs hM hS => ?_)
  refine lv_if_eq (tgt := 20) hx hb dX5_append_7 (by decide) (fun c_7 => ?_) (fun c_7 => ?_)
  · skip
    have c_7 := bI_eq.mp c_7
    refine lv_aload_n hx hb dX5_append_20 rfl (lv_at hl 0 rfl) ?_
    refine gt_X5_32 hc dX5_append_21 hM hW.o rfl ?_
    refine lv_iload_n hx hb dX5_append_24 rfl (lv_at hl 1 rfl) ?_
    refine k_V1 hc [.int v] cw_X5_234 rfl dX5_append_25 (c_X4_put l hlf g _ x cs v hW hv) hW.te hM hS hl.1 rfl rfl ⟨Nat.le_of_ble_eq_true rfl, Nat.le_of_ble_eq_true rfl⟩ ⟨Nat.le_of_ble_eq_true rfl, Nat.le_of_ble_eq_true rfl⟩ (Nat.le_of_ble_eq_true rfl) (fun H locs hM hS => ?_)
    have hW := ClsAt.put (g := g) (M := M) (x := x) (cs := (tpS cs v))
    exact k_iret hc hr dX5_append_28 hM hS (Nat.le_of_ble_eq_true rfl) (Nat.le_of_ble_eq_true rfl) (by first | exact if_neg c_7 | exact if_pos (Decidable.not_not.mp c_7))
  · skip
    have c_7 := bI_ne.mp c_7
    exact k_throw hc hnx th_IllegalStateException 23 tx_23 hM hS hl.1 dX5_append_10 dX5_append_13 dX5_append_14 dX5_append_16 dX5_append_19 ⟨Nat.le_of_ble_eq_true rfl, Nat.le_of_ble_eq_true rfl, Nat.le_of_ble_eq_true rfl, Nat.le_of_ble_eq_true rfl⟩ (Nat.le_of_ble_eq_true rfl) (Nat.le_of_ble_eq_true rfl) (by first | exact if_neg c_7 | exact if_pos (Decidable.not_not.mp c_7))
set_option maxHeartbeats 4000000 in
set_option maxRecDepth 100000 in
theorem c_X5_faultPosition (l : Launch) (hlf : l.stackTraces = false) (g : GC) (M : HM) (x : Nat) (cs : CS) (hW : ClsAt g M x cs) : KM g l yX5_faultPosition cX5_faultPosition 1 (some .int) 1 0 0 [.ref x] M (.inl (some (.int (cs 11 3 8)), M)) := by
  refine k_meth hlf (by decide) (Nat.le_of_ble_eq_true rfl) fun p e s m below meth c ls hc hr hnx hM hS hl => ?_
  have hc : Cx g p l s m [.ref x].toArray meth c cX5_faultPosition 1 RX5 := hc
  have hx := hc.1
  have hb := hc.2.1
  have hl : lv_has ls 1 [(0, .ref x)] := hl
  refine lv_aload_n hx hb dX5_faultPosition_0 rfl (lv_at hl 0 rfl) ?_
  refine gt_X5_47 hc dX5_faultPosition_1 hM hW.o rfl ?_
  exact k_iret hc hr dX5_faultPosition_4 hM hS (Nat.le_of_ble_eq_true rfl) (Nat.le_of_ble_eq_true rfl) (by rfl)
set_option maxHeartbeats 4000000 in
set_option maxRecDepth 100000 in
theorem c_X5_reason (l : Launch) (hlf : l.stackTraces = false) (g : GC) (M : HM) (x : Nat) (cs : CS) (w : Int32) (hW : ClsAt g M x cs) : KM g l yX5_reason cX5_reason 2 (some .int) 6 3 18 [.ref x, .int w] M (if ¬ w < 0 ∧ w ≤ 2 then if ¬ cs 11 3 10 = 0 then .inl (some (.int (rsV cs w)), M) else .inr ("java/util/NoSuchElementException", M) else .inr ("java/lang/IllegalArgumentException", M)) := by
  refine k_meth hlf (by decide) (Nat.le_of_ble_eq_true rfl) fun p e s m below meth c ls hc hr hnx hM hS hl => ?_
  have hc : Cx g p l s m [.ref x, .int w].toArray meth c cX5_reason 2 RX5 := hc
  have hx := hc.1
  have hb := hc.2.1
  have hl : lv_has ls 2 [(0, .ref x), (1, .int w)] := hl
  refine lv_iload_n hx hb dX5_reason_0 rfl (lv_at hl 1 rfl) ?_
  refine lv_if_lt (tgt := 9) hx hb dX5_reason_1 (by decide) (fun c_1 => ?_) (fun c_1 => ?_)
  · skip
    exact k_throwW hc hnx th_IllegalArgumentException 25 tx_25 hM hS hl.1 dX5_reason_9 dX5_reason_12 dX5_reason_13 dX5_reason_16 dX5_reason_19 ⟨Nat.le_of_ble_eq_true rfl, Nat.le_of_ble_eq_true rfl, Nat.le_of_ble_eq_true rfl, Nat.le_of_ble_eq_true rfl⟩ (Nat.le_of_ble_eq_true rfl) (Nat.le_of_ble_eq_true rfl) (by first | (simp only [rsV, eq_true c_1, not_false_eq_true, not_true_eq_false, and_true, true_and, and_false, false_and, and_self, ↓reduceIte, or_true, true_or, or_self, or_false, false_or]; done) | (simp only [rsV, eq_true c_1, not_false_eq_true, not_true_eq_false, and_true, true_and, and_false, false_and, and_self, ↓reduceIte, or_true, true_or, or_self, or_false, false_or]; rfl))
  · skip
    refine lv_iload_n hx hb dX5_reason_4 rfl (lv_at hl 1 rfl) ?_
    refine lv_iconst (v := 2) hx hb dX5_reason_5 (by decide) ?_
    refine lv_icmp_le (tgt := 20) hx hb dX5_reason_6 (by decide) (fun c_6 => ?_) (fun c_6 => ?_)
    · skip
      refine lv_aload_n hx hb dX5_reason_20 rfl (lv_at hl 0 rfl) ?_
      refine gt_X5_54 hc dX5_reason_21 hM hW.o rfl ?_
      refine lv_if_ne (tgt := 38) hx hb dX5_reason_24 (by decide) (fun c_24 => ?_) (fun c_24 => ?_)
      · skip
        refine lv_iload_n hx hb dX5_reason_38 rfl (lv_at hl 1 rfl) ?_
        refine lv_if_ne (tgt := 47) hx hb dX5_reason_39 (by decide) (fun c_39 => ?_) (fun c_39 => ?_)
        · skip
          refine lv_iload_n hx hb dX5_reason_47 rfl (lv_at hl 1 rfl) ?_
          refine lv_iconst (v := 1) hx hb dX5_reason_48 (by decide) ?_
          refine lv_icmp_ne (tgt := 59) hx hb dX5_reason_49 (by decide) (fun c_49 => ?_) (fun c_49 => ?_)
          · skip
            refine lv_aload_n hx hb dX5_reason_59 rfl (lv_at hl 0 rfl) ?_
            refine gt_X5_60 hc dX5_reason_60 hM hW.o rfl ?_
            exact k_iret hc hr dX5_reason_63 hM hS (Nat.le_of_ble_eq_true rfl) (Nat.le_of_ble_eq_true rfl) (by first | (simp only [rsV, eq_false c_1, eq_true c_6, eq_false c_24, eq_false c_39, eq_false c_49, not_false_eq_true, not_true_eq_false, and_true, true_and, and_false, false_and, and_self, ↓reduceIte, or_true, true_or, or_self, or_false, false_or]; done) | (simp only [rsV, eq_false c_1, eq_true c_6, eq_false c_24, eq_false c_39, eq_false c_49, not_false_eq_true, not_true_eq_false, and_true, true_and, and_false, false_and, and_self, ↓reduceIte, or_true, true_or, or_self, or_false, false_or]; rfl))
          · skip
            refine lv_aload_n hx hb dX5_reason_52 rfl (lv_at hl 0 rfl) ?_
            refine gt_X5_57 hc dX5_reason_53 hM hW.o rfl ?_
            refine lv_goto (tgt := 63) hx hb dX5_reason_56 (by decide) ?_
            exact k_iret hc hr dX5_reason_63 hM hS (Nat.le_of_ble_eq_true rfl) (Nat.le_of_ble_eq_true rfl) (by first | (simp only [rsV, eq_false c_1, eq_true c_6, eq_false c_24, eq_false c_39, eq_true c_49, not_false_eq_true, not_true_eq_false, and_true, true_and, and_false, false_and, and_self, ↓reduceIte, or_true, true_or, or_self, or_false, false_or]; done) | (simp only [rsV, eq_false c_1, eq_true c_6, eq_false c_24, eq_false c_39, eq_true c_49, not_false_eq_true, not_true_eq_false, and_true, true_and, and_false, false_and, and_self, ↓reduceIte, or_true, true_or, or_self, or_false, false_or]; rfl))
        · skip
          refine lv_aload_n hx hb dX5_reason_42 rfl (lv_at hl 0 rfl) ?_
          refine gt_X5_54 hc dX5_reason_43 hM hW.o rfl ?_
          exact k_iret hc hr dX5_reason_46 hM hS (Nat.le_of_ble_eq_true rfl) (Nat.le_of_ble_eq_true rfl) (by first | (simp only [rsV, eq_false c_1, eq_true c_6, eq_false c_24, eq_true c_39, not_false_eq_true, not_true_eq_false, and_true, true_and, and_false, false_and, and_self, ↓reduceIte, or_true, true_or, or_self, or_false, false_or]; done) | (simp only [rsV, eq_false c_1, eq_true c_6, eq_false c_24, eq_true c_39, not_false_eq_true, not_true_eq_false, and_true, true_and, and_false, false_and, and_self, ↓reduceIte, or_true, true_or, or_self, or_false, false_or]; rfl))
      · skip
        exact k_throwNW hc hnx 26 tx_26 hM hS hl.1 dX5_reason_27 dX5_reason_30 dX5_reason_31 dX5_reason_34 dX5_reason_37 ⟨Nat.le_of_ble_eq_true rfl, Nat.le_of_ble_eq_true rfl, Nat.le_of_ble_eq_true rfl, Nat.le_of_ble_eq_true rfl⟩ (Nat.le_of_ble_eq_true rfl) (Nat.le_of_ble_eq_true rfl) (by first | (simp only [rsV, eq_false c_1, eq_true c_6, eq_true c_24, not_false_eq_true, not_true_eq_false, and_true, true_and, and_false, false_and, and_self, ↓reduceIte, or_true, true_or, or_self, or_false, false_or]; done) | (simp only [rsV, eq_false c_1, eq_true c_6, eq_true c_24, not_false_eq_true, not_true_eq_false, and_true, true_and, and_false, false_and, and_self, ↓reduceIte, or_true, true_or, or_self, or_false, false_or]; rfl))
    · skip
      exact k_throwW hc hnx th_IllegalArgumentException 25 tx_25 hM hS hl.1 dX5_reason_9 dX5_reason_12 dX5_reason_13 dX5_reason_16 dX5_reason_19 ⟨Nat.le_of_ble_eq_true rfl, Nat.le_of_ble_eq_true rfl, Nat.le_of_ble_eq_true rfl, Nat.le_of_ble_eq_true rfl⟩ (Nat.le_of_ble_eq_true rfl) (Nat.le_of_ble_eq_true rfl) (by first | (simp only [rsV, eq_false c_1, eq_false c_6, not_false_eq_true, not_true_eq_false, and_true, true_and, and_false, false_and, and_self, ↓reduceIte, or_true, true_or, or_self, or_false, false_or]; done) | (simp only [rsV, eq_false c_1, eq_false c_6, not_false_eq_true, not_true_eq_false, and_true, true_and, and_false, false_and, and_self, ↓reduceIte, or_true, true_or, or_self, or_false, false_or]; rfl))
set_option maxHeartbeats 4000000 in
set_option maxRecDepth 100000 in
theorem c_X5_line (l : Launch) (hlf : l.stackTraces = false) (g : GC) (M : HM) (x : Nat) (cs : CS) (i : Int32) (hW : ClsAt g M x cs) : KM g l yX5_line cX5_line 4 (some .int) 7 3 18 [.ref x, .int i] M (if hasSh (cs 0) i then .inl (some (.int (li2 cs i 11 3 4)), (putC g M x (li2 cs i))) else .inr ("java/lang/IndexOutOfBoundsException", M)) := by
  refine k_meth hlf (by decide) (Nat.le_of_ble_eq_true rfl) fun p e s m below meth c ls hc hr hnx hM hS hl => ?_
  have hc : Cx g p l s m [.ref x, .int i].toArray meth c cX5_line 4 RX5 := hc
  have hx := hc.1
  have hb := hc.2.1
  have hl : lv_has ls 4 [(0, .ref x), (1, .int i)] := hl
  refine lv_aload_n hx hb dX5_line_0 rfl (lv_at hl 0 rfl) ?_
  refine lv_iload_n hx hb dX5_line_1 rfl (lv_at hl 1 rfl) ?_
  by_cases q_2_0 : hasSh (cs 0) i
  rotate_left 1
  · skip
    have hK := c_X5_needSheet l hlf g _ x cs i hW
    rw [if_neg q_2_0] at hK
    refine k_VX hc [.int i] cw_X5_160 rfl dX5_line_2 hK hW.o hM hS hl.1 rfl rfl ⟨Nat.le_of_ble_eq_true rfl, Nat.le_of_ble_eq_true rfl⟩ ⟨Nat.le_of_ble_eq_true rfl, Nat.le_of_ble_eq_true rfl⟩ (Nat.le_of_ble_eq_true rfl) (fun H locs q9 ce hM hS h1 h2 h3 => ?_)
    exact k_out hc hnx hM hS (Nat.le_of_ble_eq_true rfl) (Nat.le_of_ble_eq_true rfl) h1 h2 h3 (by first | exact if_neg q_2_0 | (simp only [li2, eq_false q_2_0, not_false_eq_true, not_true_eq_false, and_true, true_and, and_false, false_and, and_self, ↓reduceIte, or_true, true_or, or_self, or_false, false_or]; done) | (simp only [li2, eq_false q_2_0, not_false_eq_true, not_true_eq_false, and_true, true_and, and_false, false_and, and_self, ↓reduceIte, or_true, true_or, or_self, or_false, false_or]; rfl))
  have hK := c_X5_needSheet l hlf g _ x cs i hW
  rw [if_pos q_2_0] at hK
  refine k_V0 hc [.int i] cw_X5_160 rfl dX5_line_2 hK hW.o hM hS hl.1 rfl rfl ⟨Nat.le_of_ble_eq_true rfl, Nat.le_of_ble_eq_true rfl⟩ ⟨Nat.le_of_ble_eq_true rfl, Nat.le_of_ble_eq_true rfl⟩ (Nat.le_of_ble_eq_true rfl) (fun H locs hM hS => ?_)
  refine lv_aload_n hx hb dX5_line_5 rfl (lv_at hl 0 rfl) ?_
  refine gt_X5_39 hc dX5_line_6 hM hW.o rfl ?_
  refine k_V0 hc [] cw_X5_278 rfl dX5_line_9 (c_X2_clear l hlf g _ x cs hW) hW.li hM hS hl.1 rfl rfl ⟨Nat.le_of_ble_eq_true rfl, Nat.le_of_ble_eq_true rfl⟩ ⟨Nat.le_of_ble_eq_true rfl, Nat.le_of_ble_eq_true rfl⟩ (Nat.le_of_ble_eq_true rfl) (fun H locs hM hS => ?_)
  have hW := ClsAt.put (g := g) (M := M) (x := x) (cs := (upS cs 4 0))
  refine lv_iconst (v := 0) hx hb dX5_line_12 (by decide) ?_
  refine lv_istore_n (lv' := [(2, .int 0), (0, .ref x), (1, .int i)]) hx hb dX5_line_13 rfl hl (by decide) rfl (fun ls hl => ?_)
  have lp_14 : ∀ (D k : Nat), ((cs 0 8 0).toNatClampNeg) - k < D → k ≤ (cs 0 8 0).toNatClampNeg → ∀ (ls : Array Slot) (H : Heap) (locs : List Loc), hR g (putC g M x (itr (liS i) (upS cs 4 0) k)) H → va_S (gA g) s.heap H locs → lv_has ls 4 [(2, .int (nI k)), (0, .ref x), (1, .int i)] → W p l e (rmOf 7 3 18) s m [.ref x, .int i].toArray below meth c H locs 1 6 (vx_MQ below (KQ g (if hasSh (cs 0) i then .inl (some (.int (li2 cs i 11 3 4)), (putC g M x (li2 cs i))) else .inr ("java/lang/IndexOutOfBoundsException", M))) (KX g (if hasSh (cs 0) i then .inl (some (.int (li2 cs i 11 3 4)), (putC g M x (li2 cs i))) else .inr ("java/lang/IndexOutOfBoundsException", M))) [.ref x, .int i].toArray s 3 18 (gA g)) (F0 m 14 ls []) := by
    intro D
    induction D with
    | zero => intro k hD; exact absurd hD (Nat.not_lt_zero _)
    | succ D ih_14 =>
      intro k hD hk ls H locs hM hS hl
      have hW := ClsAt.put (g := g) (M := M) (x := x) (cs := (itr (liS i) (upS cs 4 0) k))
      refine lv_iload_n hx hb dX5_line_14 rfl (lv_at hl 0 rfl) ?_
      refine lv_aload_n hx hb dX5_line_15 rfl (lv_at hl 1 rfl) ?_
      refine gt_X5_10 hc dX5_line_16 hM hW.o rfl ?_
      refine gt_X5_116 hc dX5_line_19 hM (hW.flat (k := 0) (a := x + 1) (by decide) rfl).o rfl ?_
      refine k_V1 hc [] cw_X5_171 rfl dX5_line_22 (c_X3_size l hlf g _ (x + 2) 10 ((itr (liS i) (upS cs 4 0) k) 0 8 0) ((itr (liS i) (upS cs 4 0) k) 0 0) ((hW.flat (k := 0) (a := x + 1) (by decide) rfl).row (k := 0) (r := x + 2) (by decide) rfl rfl)) ((hW.flat (k := 0) (a := x + 1) (by decide) rfl).row (k := 0) (r := x + 2) (by decide) rfl rfl).1 hM hS hl.1 rfl rfl ⟨Nat.le_of_ble_eq_true rfl, Nat.le_of_ble_eq_true rfl⟩ ⟨Nat.le_of_ble_eq_true rfl, Nat.le_of_ble_eq_true rfl⟩ (Nat.le_of_ble_eq_true rfl) (fun H locs hM hS => ?_)
      refine lv_icmp_ge (tgt := 71) hx hb dX5_line_25 (by decide) (fun c_25 => ?_) (fun c_25 => ?_)
      · skip
        rw [li_0] at c_25
        have c_25 := (k_le (by have := k_clamp_lt (cs 0 8 0); omega)).mp c_25
        have hk5 : k = (cs 0 8 0).toNatClampNeg := by omega
        subst hk5
        have hM : hR g (putC g M x (li1 cs i)) H := hM
        have hW := ClsAt.put (g := g) (M := M) (x := x) (cs := (li1 cs i))
        refine lv_aload_n hx hb dX5_line_71 rfl (lv_at hl 1 rfl) ?_
        refine gt_X5_39 hc dX5_line_72 hM hW.o rfl ?_
        refine k_V1 hc [] cw_X5_283 rfl dX5_line_75 (c_X2_length l hlf g _ x (li1 cs i) hW) hW.li hM hS hl.1 rfl rfl ⟨Nat.le_of_ble_eq_true rfl, Nat.le_of_ble_eq_true rfl⟩ ⟨Nat.le_of_ble_eq_true rfl, Nat.le_of_ble_eq_true rfl⟩ (Nat.le_of_ble_eq_true rfl) (fun H locs hM hS => ?_)
        refine lv_if_ne (tgt := 91) hx hb dX5_line_78 (by decide) (fun c_78 => ?_) (fun c_78 => ?_)
        · skip
          refine lv_aload_n hx hb dX5_line_91 rfl (lv_at hl 1 rfl) ?_
          refine gt_X5_39 hc dX5_line_92 hM hW.o rfl ?_
          refine k_V1 hc [] cw_X5_283 rfl dX5_line_95 (c_X2_length l hlf g _ x (li1 cs i) hW) hW.li hM hS hl.1 rfl rfl ⟨Nat.le_of_ble_eq_true rfl, Nat.le_of_ble_eq_true rfl⟩ ⟨Nat.le_of_ble_eq_true rfl, Nat.le_of_ble_eq_true rfl⟩ (Nat.le_of_ble_eq_true rfl) (fun H locs hM hS => ?_)
          exact k_iret hc hr dX5_line_98 hM hS (Nat.le_of_ble_eq_true rfl) (Nat.le_of_ble_eq_true rfl) (by first | exact if_neg q_2_0 | (simp only [li2, eq_true q_2_0, eq_false c_78, not_false_eq_true, not_true_eq_false, and_true, true_and, and_false, false_and, and_self, ↓reduceIte, or_true, true_or, or_self, or_false, false_or]; done) | (simp only [li2, eq_true q_2_0, eq_false c_78, not_false_eq_true, not_true_eq_false, and_true, true_and, and_false, false_and, and_self, ↓reduceIte, or_true, true_or, or_self, or_false, false_or]; rfl))
        · skip
          refine lv_aload_n hx hb dX5_line_81 rfl (lv_at hl 1 rfl) ?_
          refine gt_X5_39 hc dX5_line_82 hM hW.o rfl ?_
          refine k_ldcW hx hb hc.2.2.2.1 (k_strN hc 8 tx_8) dX5_line_85 ?_
          refine k_V0 hc [.ref (g.2.2.2.1 8)] cw_X5_288 rfl dX5_line_88 (c_X2_putWord l hlf g _ x (li1 cs i) 8 blB hW rfl (by decide)) hW.li hM hS hl.1 rfl rfl ⟨Nat.le_of_ble_eq_true rfl, Nat.le_of_ble_eq_true rfl⟩ ⟨Nat.le_of_ble_eq_true rfl, Nat.le_of_ble_eq_true rfl⟩ (Nat.le_of_ble_eq_true rfl) (fun H locs hM hS => ?_)
          have hM := hR.eq hM putC_putC
          have hW := ClsAt.put (g := g) (M := M) (x := x) (cs := (lwS blB (li1 cs i) blB.length))
          refine lv_aload_n hx hb dX5_line_91 rfl (lv_at hl 1 rfl) ?_
          refine gt_X5_39 hc dX5_line_92 hM hW.o rfl ?_
          refine k_V1 hc [] cw_X5_283 rfl dX5_line_95 (c_X2_length l hlf g _ x (lwS blB (li1 cs i) blB.length) hW) hW.li hM hS hl.1 rfl rfl ⟨Nat.le_of_ble_eq_true rfl, Nat.le_of_ble_eq_true rfl⟩ ⟨Nat.le_of_ble_eq_true rfl, Nat.le_of_ble_eq_true rfl⟩ (Nat.le_of_ble_eq_true rfl) (fun H locs hM hS => ?_)
          exact k_iret hc hr dX5_line_98 hM hS (Nat.le_of_ble_eq_true rfl) (Nat.le_of_ble_eq_true rfl) (by first | exact if_neg q_2_0 | (simp only [li2, eq_true q_2_0, eq_true c_78, not_false_eq_true, not_true_eq_false, and_true, true_and, and_false, false_and, and_self, ↓reduceIte, or_true, true_or, or_self, or_false, false_or]; done) | (simp only [li2, eq_true q_2_0, eq_true c_78, not_false_eq_true, not_true_eq_false, and_true, true_and, and_false, false_and, and_self, ↓reduceIte, or_true, true_or, or_self, or_false, false_or]; rfl))
      · skip
        rw [li_0] at c_25
        have c_25 : ¬ (cs 0 8 0).toNatClampNeg ≤ k := fun h => c_25 ((k_le (by have := k_clamp_lt (cs 0 8 0); omega)).mpr h)
        refine lv_aload_n hx hb dX5_line_28 rfl (lv_at hl 1 rfl) ?_
        refine gt_X5_10 hc dX5_line_29 hM hW.o rfl ?_
        refine lv_iload_n hx hb dX5_line_32 rfl (lv_at hl 0 rfl) ?_
        refine lv_iload_n hx hb dX5_line_33 rfl (lv_at hl 2 rfl) ?_
        refine k_V1 hc [.int (nI k), .int i] cw_X5_163 rfl dX5_line_34 (c_X0_drawnPlace l hlf g _ (x + 1) ((itr (liS i) (upS cs 4 0) k) 0) (nI k) i (hW.flat (k := 0) (a := x + 1) (by decide) rfl)) (hW.flat (k := 0) (a := x + 1) (by decide) rfl).o hM hS hl.1 rfl rfl ⟨Nat.le_of_ble_eq_true rfl, Nat.le_of_ble_eq_true rfl⟩ ⟨Nat.le_of_ble_eq_true rfl, Nat.le_of_ble_eq_true rfl⟩ (Nat.le_of_ble_eq_true rfl) (fun H locs hM hS => ?_)
        refine lv_istore_n (lv' := [(3, .int (drawnF ((itr (liS i) (upS cs 4 0) k) 0) (nI k) i)), (2, .int (nI k)), (0, .ref x), (1, .int i)]) hx hb dX5_line_37 rfl hl (by decide) rfl (fun ls hl => ?_)
        refine lv_iload_n hx hb dX5_line_38 rfl (lv_at hl 0 rfl) ?_
        refine lv_iconst (v := (-1)) hx hb dX5_line_39 (by decide) ?_
        refine lv_icmp_eq (tgt := 65) hx hb dX5_line_40 (by decide) (fun c_40 => ?_) (fun c_40 => ?_)
        · skip
          refine lv_iinc (v := (nI (k + 1))) (lv' := [(2, .int (nI (k + 1))), (3, .int (drawnF ((itr (liS i) (upS cs 4 0) k) 0) (nI k) i)), (0, .ref x), (1, .int i)]) hx hb dX5_line_65 hl (k := 1) rfl (k_inc1 _) (by decide) rfl (fun ls hl => ?_)
          refine lv_goto (tgt := 14) hx hb dX5_line_68 (by decide) ?_
          have hM : hR g (putC g M x (itr (liS i) (upS cs 4 0) (k + 1))) _ := hR.eq hM (congrArg (putC g M x) (by rw [itr_s]; simp only [liS, eq_true q_2_0, eq_false c_25, eq_true c_40, not_false_eq_true, not_true_eq_false, and_true, true_and, and_false, false_and, and_self, ↓reduceIte, or_true, true_or, or_self, or_false, false_or]))
          exact ih_14 (k + 1) (by omega) (by omega) ls _ _ hM hS (lv_sub hl [0, 2, 3] rfl)
        · skip
          refine lv_aload_n hx hb dX5_line_43 rfl (lv_at hl 2 rfl) ?_
          refine gt_X5_39 hc dX5_line_44 hM hW.o rfl ?_
          refine lv_iload_n hx hb dX5_line_47 rfl (lv_at hl 1 rfl) ?_
          refine lv_iload_n hx hb dX5_line_48 rfl (lv_at hl 0 rfl) ?_
          refine lv_iload_n hx hb dX5_line_49 rfl (lv_at hl 0 rfl) ?_
          refine lv_aload_n hx hb dX5_line_50 rfl (lv_at hl 2 rfl) ?_
          refine gt_X5_10 hc dX5_line_51 hM hW.o rfl ?_
          refine gt_X5_116 hc dX5_line_54 hM (hW.flat (k := 0) (a := x + 1) (by decide) rfl).o rfl ?_
          refine lv_iload_n hx hb dX5_line_57 rfl (lv_at hl 1 rfl) ?_
          refine k_V1 hc [.int (nI k)] cw_X5_120 rfl dX5_line_58 (c_X3_get l hlf g _ (x + 2) 10 ((itr (liS i) (upS cs 4 0) k) 0 8 0) ((itr (liS i) (upS cs 4 0) k) 0 0) (nI k) ((hW.flat (k := 0) (a := x + 1) (by decide) rfl).row (k := 0) (r := x + 2) (by decide) rfl rfl) (by decide)) ((hW.flat (k := 0) (a := x + 1) (by decide) rfl).row (k := 0) (r := x + 2) (by decide) rfl rfl).1 hM hS hl.1 rfl rfl ⟨Nat.le_of_ble_eq_true rfl, Nat.le_of_ble_eq_true rfl⟩ ⟨Nat.le_of_ble_eq_true rfl, Nat.le_of_ble_eq_true rfl⟩ (Nat.le_of_ble_eq_true rfl) (fun H locs hM hS => ?_)
          refine lv_isub hx hb dX5_line_61 ?_
          refine k_V0 hc [.int (nI k), .int (drawnF ((itr (liS i) (upS cs 4 0) k) 0) (nI k) i), .int ((drawnF ((itr (liS i) (upS cs 4 0) k) 0) (nI k) i) - (rget 10 ((itr (liS i) (upS cs 4 0) k) 0 8 0) ((itr (liS i) (upS cs 4 0) k) 0 0) (nI k)))] cw_X5_279 rfl dX5_line_62 (c_X2_putStake l hlf g _ x (itr (liS i) (upS cs 4 0) k) (nI k) (drawnF ((itr (liS i) (upS cs 4 0) k) 0) (nI k) i) ((drawnF ((itr (liS i) (upS cs 4 0) k) 0) (nI k) i) - (rget 10 ((itr (liS i) (upS cs 4 0) k) 0 8 0) ((itr (liS i) (upS cs 4 0) k) 0 0) (nI k))) hW) hW.li hM hS hl.1 rfl rfl ⟨Nat.le_of_ble_eq_true rfl, Nat.le_of_ble_eq_true rfl⟩ ⟨Nat.le_of_ble_eq_true rfl, Nat.le_of_ble_eq_true rfl⟩ (Nat.le_of_ble_eq_true rfl) (fun H locs hM hS => ?_)
          have hM := hR.eq hM putC_putC
          have hW := ClsAt.put (g := g) (M := M) (x := x) (cs := (lkS (itr (liS i) (upS cs 4 0) k) (nI k) (drawnF ((itr (liS i) (upS cs 4 0) k) 0) (nI k) i) ((drawnF ((itr (liS i) (upS cs 4 0) k) 0) (nI k) i) - (rget 10 ((itr (liS i) (upS cs 4 0) k) 0 8 0) ((itr (liS i) (upS cs 4 0) k) 0 0) (nI k)))))
          refine lv_iinc (v := (nI (k + 1))) (lv' := [(2, .int (nI (k + 1))), (3, .int (drawnF ((itr (liS i) (upS cs 4 0) k) 0) (nI k) i)), (0, .ref x), (1, .int i)]) hx hb dX5_line_65 hl (k := 1) rfl (k_inc1 _) (by decide) rfl (fun ls hl => ?_)
          refine lv_goto (tgt := 14) hx hb dX5_line_68 (by decide) ?_
          have hM : hR g (putC g M x (itr (liS i) (upS cs 4 0) (k + 1))) _ := hR.eq hM (congrArg (putC g M x) (by rw [itr_s]; simp only [liS, eq_true q_2_0, eq_false c_25, eq_false c_40, not_false_eq_true, not_true_eq_false, and_true, true_and, and_false, false_and, and_self, ↓reduceIte, or_true, true_or, or_self, or_false, false_or]))
          exact ih_14 (k + 1) (by omega) (by omega) ls _ _ hM hS (lv_sub hl [0, 2, 3] rfl)
  have z_2 : 0 = (nI 0) := rfl
  have hl := lv_chg (lv_sub hl [0, 1, 2] rfl) z_2
  exact lp_14 ((cs 0 8 0).toNatClampNeg + 1) 0 (by omega) (by omega) ls _ _ hM hS (lv_sub hl [0, 1, 2] rfl)
set_option maxHeartbeats 4000000 in
set_option maxRecDepth 100000 in
theorem c_X5_character (l : Launch) (hlf : l.stackTraces = false) (g : GC) (M : HM) (x : Nat) (cs : CS) (i : Int32) (hW : ClsAt g M x cs) (ht : lsOk cs) (h9 : cs 11 3 4 ≤ nI 79) : KM g l yX5_character cX5_character 2 (some .char) 6 3 18 [.ref x, .int i] M (if ¬ i < 0 ∧ i < cs 11 3 4 then .inl (some (.int (cs 11 2 (i).toNatClampNeg)), M) else .inr ("java/lang/IndexOutOfBoundsException", M)) := by
  refine k_meth hlf (by decide) (Nat.le_of_ble_eq_true rfl) fun p e s m below meth c ls hc hr hnx hM hS hl => ?_
  have hc : Cx g p l s m [.ref x, .int i].toArray meth c cX5_character 2 RX5 := hc
  have hx := hc.1
  have hb := hc.2.1
  have hl : lv_has ls 2 [(0, .ref x), (1, .int i)] := hl
  refine lv_iload_n hx hb dX5_character_0 rfl (lv_at hl 1 rfl) ?_
  refine lv_if_lt (tgt := 15) hx hb dX5_character_1 (by decide) (fun c_1 => ?_) (fun c_1 => ?_)
  · skip
    exact k_throwW hc hnx th_IndexOutOfBoundsException 27 tx_27 hM hS hl.1 dX5_character_15 dX5_character_18 dX5_character_19 dX5_character_22 dX5_character_25 ⟨Nat.le_of_ble_eq_true rfl, Nat.le_of_ble_eq_true rfl, Nat.le_of_ble_eq_true rfl, Nat.le_of_ble_eq_true rfl⟩ (Nat.le_of_ble_eq_true rfl) (Nat.le_of_ble_eq_true rfl) (by first | (simp only [eq_true c_1, not_false_eq_true, not_true_eq_false, and_true, true_and, and_false, false_and, and_self, ↓reduceIte, or_true, true_or, or_self, or_false, false_or]; done) | (simp only [eq_true c_1, not_false_eq_true, not_true_eq_false, and_true, true_and, and_false, false_and, and_self, ↓reduceIte, or_true, true_or, or_self, or_false, false_or]; rfl))
  · skip
    refine lv_iload_n hx hb dX5_character_4 rfl (lv_at hl 1 rfl) ?_
    refine lv_aload_n hx hb dX5_character_5 rfl (lv_at hl 0 rfl) ?_
    refine gt_X5_39 hc dX5_character_6 hM hW.o rfl ?_
    refine k_V1 hc [] cw_X5_283 rfl dX5_character_9 (c_X2_length l hlf g _ x cs hW) hW.li hM hS hl.1 rfl rfl ⟨Nat.le_of_ble_eq_true rfl, Nat.le_of_ble_eq_true rfl⟩ ⟨Nat.le_of_ble_eq_true rfl, Nat.le_of_ble_eq_true rfl⟩ (Nat.le_of_ble_eq_true rfl) (fun H locs hM hS => ?_)
    refine lv_icmp_lt (tgt := 26) hx hb dX5_character_12 (by decide) (fun c_12 => ?_) (fun c_12 => ?_)
    · skip
      refine lv_aload_n hx hb dX5_character_26 rfl (lv_at hl 0 rfl) ?_
      refine gt_X5_39 hc dX5_character_27 hM hW.o rfl ?_
      refine lv_iload_n hx hb dX5_character_30 rfl (lv_at hl 1 rfl) ?_
      refine k_V1 hc [.int i] cw_X5_296 rfl dX5_character_31 (c_X2_signAt l hlf g _ x cs i hW ht) hW.li hM hS hl.1 rfl rfl ⟨Nat.le_of_ble_eq_true rfl, Nat.le_of_ble_eq_true rfl⟩ ⟨Nat.le_of_ble_eq_true rfl, Nat.le_of_ble_eq_true rfl⟩ (Nat.le_of_ble_eq_true rfl) (fun H locs hM hS => ?_)
      exact k_zret hc hr dX5_character_34 hM hS (by show chOk _; split; exact ht _; rfl) (Nat.le_of_ble_eq_true rfl) (Nat.le_of_ble_eq_true rfl) (by rw [if_pos ⟨c_1, c_12⟩, if_pos ⟨c_1, Int32.not_le.mpr c_12, Int32.not_le.mpr (Int32.lt_of_lt_of_le c_12 h9)⟩])
    · skip
      exact k_throwW hc hnx th_IndexOutOfBoundsException 27 tx_27 hM hS hl.1 dX5_character_15 dX5_character_18 dX5_character_19 dX5_character_22 dX5_character_25 ⟨Nat.le_of_ble_eq_true rfl, Nat.le_of_ble_eq_true rfl, Nat.le_of_ble_eq_true rfl, Nat.le_of_ble_eq_true rfl⟩ (Nat.le_of_ble_eq_true rfl) (Nat.le_of_ble_eq_true rfl) (by first | (simp only [eq_false c_1, eq_false c_12, not_false_eq_true, not_true_eq_false, and_true, true_and, and_false, false_and, and_self, ↓reduceIte, or_true, true_or, or_self, or_false, false_or]; done) | (simp only [eq_false c_1, eq_false c_12, not_false_eq_true, not_true_eq_false, and_true, true_and, and_false, false_and, and_self, ↓reduceIte, or_true, true_or, or_self, or_false, false_or]; rfl))
set_option maxHeartbeats 4000000 in
set_option maxRecDepth 100000 in
theorem c_X5_meanThirst (l : Launch) (hlf : l.stackTraces = false) (g : GC) (M : HM) (x : Nat) (cs : CS) (hW : ClsAt g M x cs) (hf : 0 < cs 0 8 4 → vf_n32 (FP.fdiv (FP.i2f (rsum 6 (cs 0 8 5) (cs 0 5))) (FP.i2f (cs 0 8 4)))) : KM g l yX5_meanThirst cX5_meanThirst 2 (some .float) 6 3 18 [.ref x] M (if 0 < cs 0 8 4 then .inl (some (.float (FP.fdiv (FP.i2f (rsum 6 (cs 0 8 5) (cs 0 5))) (FP.i2f (cs 0 8 4)))), M) else .inr ("java/lang/ArithmeticException", M)) := by
  refine k_meth hlf (by decide) (Nat.le_of_ble_eq_true rfl) fun p e s m below meth c ls hc hr hnx hM hS hl => ?_
  have hc : Cx g p l s m [.ref x].toArray meth c cX5_meanThirst 2 RX5 := hc
  have hx := hc.1
  have hb := hc.2.1
  have hl : lv_has ls 2 [(0, .ref x)] := hl
  refine lv_aload_n hx hb dX5_meanThirst_0 rfl (lv_at hl 0 rfl) ?_
  refine gt_X5_10 hc dX5_meanThirst_1 hM hW.o rfl ?_
  refine gt_X5_137 hc dX5_meanThirst_4 hM (hW.flat (k := 0) (a := x + 1) (by decide) rfl).o rfl ?_
  refine k_V1 hc [] cw_X5_171 rfl dX5_meanThirst_7 (c_X3_size l hlf g _ (x + 10) 6 (cs 0 8 4) (cs 0 4) ((hW.flat (k := 0) (a := x + 1) (by decide) rfl).row (k := 4) (r := x + 10) (by decide) rfl rfl)) ((hW.flat (k := 0) (a := x + 1) (by decide) rfl).row (k := 4) (r := x + 10) (by decide) rfl rfl).1 hM hS hl.1 rfl rfl ⟨Nat.le_of_ble_eq_true rfl, Nat.le_of_ble_eq_true rfl⟩ ⟨Nat.le_of_ble_eq_true rfl, Nat.le_of_ble_eq_true rfl⟩ (Nat.le_of_ble_eq_true rfl) (fun H locs hM hS => ?_)
  refine lv_istore_n (lv' := [(1, .int (cs 0 8 4)), (0, .ref x)]) hx hb dX5_meanThirst_10 rfl hl (by decide) rfl (fun ls hl => ?_)
  refine lv_iload_n hx hb dX5_meanThirst_11 rfl (lv_at hl 0 rfl) ?_
  refine lv_if_gt (tgt := 25) hx hb dX5_meanThirst_12 (by decide) (fun c_12 => ?_) (fun c_12 => ?_)
  · skip
    refine lv_aload_n hx hb dX5_meanThirst_25 rfl (lv_at hl 1 rfl) ?_
    refine gt_X5_10 hc dX5_meanThirst_26 hM hW.o rfl ?_
    refine gt_X5_140 hc dX5_meanThirst_29 hM (hW.flat (k := 0) (a := x + 1) (by decide) rfl).o rfl ?_
    refine k_V1 hc [] cw_X5_303 rfl dX5_meanThirst_32 (c_X3_sum l hlf g _ (x + 12) 6 (cs 0 8 5) (cs 0 5) ((hW.flat (k := 0) (a := x + 1) (by decide) rfl).row (k := 5) (r := x + 12) (by decide) rfl rfl) (by decide)) ((hW.flat (k := 0) (a := x + 1) (by decide) rfl).row (k := 5) (r := x + 12) (by decide) rfl rfl).1 hM hS hl.1 rfl rfl ⟨Nat.le_of_ble_eq_true rfl, Nat.le_of_ble_eq_true rfl⟩ ⟨Nat.le_of_ble_eq_true rfl, Nat.le_of_ble_eq_true rfl⟩ (Nat.le_of_ble_eq_true rfl) (fun H locs hM hS => ?_)
    refine lv_i2f hx hb dX5_meanThirst_35 ?_
    refine lv_iload_n hx hb dX5_meanThirst_36 rfl (lv_at hl 0 rfl) ?_
    refine lv_i2f hx hb dX5_meanThirst_37 ?_
    refine lv_fdiv hx hb dX5_meanThirst_38 (hf c_12) ?_
    exact k_fret hc hr dX5_meanThirst_39 hM hS (Nat.le_of_ble_eq_true rfl) (Nat.le_of_ble_eq_true rfl) (by first | (simp only [eq_true c_12, not_false_eq_true, not_true_eq_false, and_true, true_and, and_false, false_and, and_self, ↓reduceIte, or_true, true_or, or_self, or_false, false_or]; done) | (simp only [eq_true c_12, not_false_eq_true, not_true_eq_false, and_true, true_and, and_false, false_and, and_self, ↓reduceIte, or_true, true_or, or_self, or_false, false_or]; rfl))
  · skip
    exact k_throw hc hnx th_ArithmeticException 22 tx_22 hM hS hl.1 dX5_meanThirst_15 dX5_meanThirst_18 dX5_meanThirst_19 dX5_meanThirst_21 dX5_meanThirst_24 ⟨Nat.le_of_ble_eq_true rfl, Nat.le_of_ble_eq_true rfl, Nat.le_of_ble_eq_true rfl, Nat.le_of_ble_eq_true rfl⟩ (Nat.le_of_ble_eq_true rfl) (Nat.le_of_ble_eq_true rfl) (by first | (simp only [eq_false c_12, not_false_eq_true, not_true_eq_false, and_true, true_and, and_false, false_and, and_self, ↓reduceIte, or_true, true_or, or_self, or_false, false_or]; done) | (simp only [eq_false c_12, not_false_eq_true, not_true_eq_false, and_true, true_and, and_false, false_and, and_self, ↓reduceIte, or_true, true_or, or_self, or_false, false_or]; rfl))
set_option maxHeartbeats 4000000 in
set_option maxRecDepth 100000 in
theorem c_X5_rightShare (l : Launch) (hlf : l.stackTraces = false) (g : GC) (M : HM) (x : Nat) (cs : CS) (hW : ClsAt g M x cs) (hf : 0 < cdF (cs 0) 0 → vf_n64 (FP.ddiv (FP.i2d (cdF (cs 0) 1)) (FP.i2d (cdF (cs 0) 0)))) : KM g l yX5_rightShare cX5_rightShare 2 (some .double) 6 3 18 [.ref x] M (if 0 < cdF (cs 0) 0 then .inl (some (.double (FP.ddiv (FP.i2d (cdF (cs 0) 1)) (FP.i2d (cdF (cs 0) 0)))), M) else .inr ("java/lang/ArithmeticException", M)) := by
  refine k_meth hlf (by decide) (Nat.le_of_ble_eq_true rfl) fun p e s m below meth c ls hc hr hnx hM hS hl => ?_
  have hc : Cx g p l s m [.ref x].toArray meth c cX5_rightShare 2 RX5 := hc
  have hx := hc.1
  have hb := hc.2.1
  have hl : lv_has ls 2 [(0, .ref x)] := hl
  refine lv_aload_n hx hb dX5_rightShare_0 rfl (lv_at hl 0 rfl) ?_
  refine gt_X5_10 hc dX5_rightShare_1 hM hW.o rfl ?_
  refine lv_iconst (v := 0) hx hb dX5_rightShare_4 (by decide) ?_
  refine k_V1 hc [.int 0] cw_X5_306 rfl dX5_rightShare_5 (c_X0_countDrawn l hlf g _ (x + 1) (cs 0) 0 (hW.flat (k := 0) (a := x + 1) (by decide) rfl)) (hW.flat (k := 0) (a := x + 1) (by decide) rfl).o hM hS hl.1 rfl rfl ⟨Nat.le_of_ble_eq_true rfl, Nat.le_of_ble_eq_true rfl⟩ ⟨Nat.le_of_ble_eq_true rfl, Nat.le_of_ble_eq_true rfl⟩ (Nat.le_of_ble_eq_true rfl) (fun H locs hM hS => ?_)
  refine lv_istore_n (lv' := [(1, .int (cdF (cs 0) 0)), (0, .ref x)]) hx hb dX5_rightShare_8 rfl hl (by decide) rfl (fun ls hl => ?_)
  refine lv_iload_n hx hb dX5_rightShare_9 rfl (lv_at hl 0 rfl) ?_
  refine lv_if_gt (tgt := 24) hx hb dX5_rightShare_10 (by decide) (fun c_10 => ?_) (fun c_10 => ?_)
  · skip
    refine lv_aload_n hx hb dX5_rightShare_24 rfl (lv_at hl 1 rfl) ?_
    refine gt_X5_10 hc dX5_rightShare_25 hM hW.o rfl ?_
    refine lv_iconst (v := 1) hx hb dX5_rightShare_28 (by decide) ?_
    refine k_V1 hc [.int 1] cw_X5_306 rfl dX5_rightShare_29 (c_X0_countDrawn l hlf g _ (x + 1) (cs 0) 1 (hW.flat (k := 0) (a := x + 1) (by decide) rfl)) (hW.flat (k := 0) (a := x + 1) (by decide) rfl).o hM hS hl.1 rfl rfl ⟨Nat.le_of_ble_eq_true rfl, Nat.le_of_ble_eq_true rfl⟩ ⟨Nat.le_of_ble_eq_true rfl, Nat.le_of_ble_eq_true rfl⟩ (Nat.le_of_ble_eq_true rfl) (fun H locs hM hS => ?_)
    refine lv_i2d hx hb dX5_rightShare_32 ?_
    refine lv_iload_n hx hb dX5_rightShare_33 rfl (lv_at hl 0 rfl) ?_
    refine lv_i2d hx hb dX5_rightShare_34 ?_
    refine lv_ddiv hx hb dX5_rightShare_35 (hf c_10) ?_
    exact k_dret hc hr dX5_rightShare_36 hM hS (Nat.le_of_ble_eq_true rfl) (Nat.le_of_ble_eq_true rfl) (by first | (simp only [eq_true c_10, not_false_eq_true, not_true_eq_false, and_true, true_and, and_false, false_and, and_self, ↓reduceIte, or_true, true_or, or_self, or_false, false_or]; done) | (simp only [eq_true c_10, not_false_eq_true, not_true_eq_false, and_true, true_and, and_false, false_and, and_self, ↓reduceIte, or_true, true_or, or_self, or_false, false_or]; rfl))
  · skip
    exact k_throwW hc hnx th_ArithmeticException 28 tx_28 hM hS hl.1 dX5_rightShare_13 dX5_rightShare_16 dX5_rightShare_17 dX5_rightShare_20 dX5_rightShare_23 ⟨Nat.le_of_ble_eq_true rfl, Nat.le_of_ble_eq_true rfl, Nat.le_of_ble_eq_true rfl, Nat.le_of_ble_eq_true rfl⟩ (Nat.le_of_ble_eq_true rfl) (Nat.le_of_ble_eq_true rfl) (by first | (simp only [eq_false c_10, not_false_eq_true, not_true_eq_false, and_true, true_and, and_false, false_and, and_self, ↓reduceIte, or_true, true_or, or_self, or_false, false_or]; done) | (simp only [eq_false c_10, not_false_eq_true, not_true_eq_false, and_true, true_and, and_false, false_and, and_self, ↓reduceIte, or_true, true_or, or_self, or_false, false_or]; rfl))
set_option maxHeartbeats 4000000 in
set_option maxRecDepth 100000 in
theorem c_X5_account (l : Launch) (hlf : l.stackTraces = false) (g : GC) (M : HM) (x : Nat) (cs : CS) (w : Int32) (hW : ClsAt g M x cs) : KM g l yX5_account cX5_account 2 (some .int) 6 3 18 [.ref x, .int w] M (if acOk w then .inl (some (.int (acV cs w)), M) else .inr ("java/lang/IllegalArgumentException", M)) := by
  refine k_meth hlf (by decide) (Nat.le_of_ble_eq_true rfl) fun p e s m below meth c ls hc hr hnx hM hS hl => ?_
  have hc : Cx g p l s m [.ref x, .int w].toArray meth c cX5_account 2 RX5 := hc
  have hx := hc.1
  have hb := hc.2.1
  have hl : lv_has ls 2 [(0, .ref x), (1, .int w)] := hl
  refine lv_iload_n hx hb dX5_account_0 rfl (lv_at hl 1 rfl) ?_
  by_cases c_1_0 : w = 0
  · skip
    have e_1 : w.toInt = 0 := by rw [c_1_0]; rfl
    refine lv_tableIn (tgt := 84) hx hb dX5_account_1 (by rw [e_1]; decide) (by rw [e_1]; decide) (by rw [e_1]; rfl) (by decide) ?_
    refine lv_aload_n hx hb dX5_account_84 rfl (lv_at hl 0 rfl) ?_
    refine gt_X5_10 hc dX5_account_85 hM hW.o rfl ?_
    refine gt_X5_204 hc dX5_account_88 hM (hW.flat (k := 0) (a := x + 1) (by decide) rfl).o rfl ?_
    exact k_iret hc hr dX5_account_91 hM hS (Nat.le_of_ble_eq_true rfl) (Nat.le_of_ble_eq_true rfl) (by first | (simp only [acV, acOk, eq_true c_1_0, not_false_eq_true, not_true_eq_false, and_true, true_and, and_false, false_and, and_self, ↓reduceIte, or_true, true_or, or_self, or_false, false_or]; done) | (simp only [acV, acOk, eq_true c_1_0, not_false_eq_true, not_true_eq_false, and_true, true_and, and_false, false_and, and_self, ↓reduceIte, or_true, true_or, or_self, or_false, false_or]; rfl))
  by_cases c_1_1 : w = 1
  · skip
    have e_1 : w.toInt = 1 := by rw [c_1_1]; rfl
    refine lv_tableIn (tgt := 92) hx hb dX5_account_1 (by rw [e_1]; decide) (by rw [e_1]; decide) (by rw [e_1]; rfl) (by decide) ?_
    refine lv_aload_n hx hb dX5_account_92 rfl (lv_at hl 0 rfl) ?_
    refine gt_X5_10 hc dX5_account_93 hM hW.o rfl ?_
    refine gt_X5_204 hc dX5_account_96 hM (hW.flat (k := 0) (a := x + 1) (by decide) rfl).o rfl ?_
    refine lv_bipush (v := 24) hx hb dX5_account_99 (by decide) ?_
    refine lv_irem hx hb dX5_account_101 (by decide) ?_
    exact k_iret hc hr dX5_account_102 hM hS (Nat.le_of_ble_eq_true rfl) (Nat.le_of_ble_eq_true rfl) (by first | (simp only [acV, acOk, eq_false c_1_0, eq_true c_1_1, not_false_eq_true, not_true_eq_false, and_true, true_and, and_false, false_and, and_self, ↓reduceIte, or_true, true_or, or_self, or_false, false_or]; done) | (simp only [acV, acOk, eq_false c_1_0, eq_true c_1_1, not_false_eq_true, not_true_eq_false, and_true, true_and, and_false, false_and, and_self, ↓reduceIte, or_true, true_or, or_self, or_false, false_or]; rfl))
  by_cases c_1_2 : w = 2
  · skip
    have e_1 : w.toInt = 2 := by rw [c_1_2]; rfl
    refine lv_tableIn (tgt := 103) hx hb dX5_account_1 (by rw [e_1]; decide) (by rw [e_1]; decide) (by rw [e_1]; rfl) (by decide) ?_
    refine lv_aload_n hx hb dX5_account_103 rfl (lv_at hl 0 rfl) ?_
    refine gt_X5_10 hc dX5_account_104 hM hW.o rfl ?_
    refine k_V1 hc [] cw_X5_185 rfl dX5_account_107 (c_X0_heatNow l hlf g _ (x + 1) (cs 0) (hW.flat (k := 0) (a := x + 1) (by decide) rfl)) (hW.flat (k := 0) (a := x + 1) (by decide) rfl).o hM hS hl.1 rfl rfl ⟨Nat.le_of_ble_eq_true rfl, Nat.le_of_ble_eq_true rfl⟩ ⟨Nat.le_of_ble_eq_true rfl, Nat.le_of_ble_eq_true rfl⟩ (Nat.le_of_ble_eq_true rfl) (fun H locs hM hS => ?_)
    exact k_iret hc hr dX5_account_110 hM hS (Nat.le_of_ble_eq_true rfl) (Nat.le_of_ble_eq_true rfl) (by first | (simp only [acV, acOk, eq_false c_1_0, eq_false c_1_1, eq_true c_1_2, not_false_eq_true, not_true_eq_false, and_true, true_and, and_false, false_and, and_self, ↓reduceIte, or_true, true_or, or_self, or_false, false_or]; done) | (simp only [acV, acOk, eq_false c_1_0, eq_false c_1_1, eq_true c_1_2, not_false_eq_true, not_true_eq_false, and_true, true_and, and_false, false_and, and_self, ↓reduceIte, or_true, true_or, or_self, or_false, false_or]; rfl))
  by_cases c_1_3 : w = 3
  · skip
    have e_1 : w.toInt = 3 := by rw [c_1_3]; rfl
    refine lv_tableIn (tgt := 111) hx hb dX5_account_1 (by rw [e_1]; decide) (by rw [e_1]; decide) (by rw [e_1]; rfl) (by decide) ?_
    refine lv_aload_n hx hb dX5_account_111 rfl (lv_at hl 0 rfl) ?_
    refine gt_X5_10 hc dX5_account_112 hM hW.o rfl ?_
    refine gt_X5_312 hc dX5_account_115 hM (hW.flat (k := 0) (a := x + 1) (by decide) rfl).o rfl ?_
    exact k_iret hc hr dX5_account_118 hM hS (Nat.le_of_ble_eq_true rfl) (Nat.le_of_ble_eq_true rfl) (by first | (simp only [acV, acOk, eq_false c_1_0, eq_false c_1_1, eq_false c_1_2, eq_true c_1_3, not_false_eq_true, not_true_eq_false, and_true, true_and, and_false, false_and, and_self, ↓reduceIte, or_true, true_or, or_self, or_false, false_or]; done) | (simp only [acV, acOk, eq_false c_1_0, eq_false c_1_1, eq_false c_1_2, eq_true c_1_3, not_false_eq_true, not_true_eq_false, and_true, true_and, and_false, false_and, and_self, ↓reduceIte, or_true, true_or, or_self, or_false, false_or]; rfl))
  by_cases c_1_4 : w = 4
  · skip
    have e_1 : w.toInt = 4 := by rw [c_1_4]; rfl
    refine lv_tableIn (tgt := 119) hx hb dX5_account_1 (by rw [e_1]; decide) (by rw [e_1]; decide) (by rw [e_1]; rfl) (by decide) ?_
    refine lv_aload_n hx hb dX5_account_119 rfl (lv_at hl 0 rfl) ?_
    refine gt_X5_10 hc dX5_account_120 hM hW.o rfl ?_
    refine gt_X5_116 hc dX5_account_123 hM (hW.flat (k := 0) (a := x + 1) (by decide) rfl).o rfl ?_
    refine k_V1 hc [] cw_X5_171 rfl dX5_account_126 (c_X3_size l hlf g _ (x + 2) 10 (cs 0 8 0) (cs 0 0) ((hW.flat (k := 0) (a := x + 1) (by decide) rfl).row (k := 0) (r := x + 2) (by decide) rfl rfl)) ((hW.flat (k := 0) (a := x + 1) (by decide) rfl).row (k := 0) (r := x + 2) (by decide) rfl rfl).1 hM hS hl.1 rfl rfl ⟨Nat.le_of_ble_eq_true rfl, Nat.le_of_ble_eq_true rfl⟩ ⟨Nat.le_of_ble_eq_true rfl, Nat.le_of_ble_eq_true rfl⟩ (Nat.le_of_ble_eq_true rfl) (fun H locs hM hS => ?_)
    exact k_iret hc hr dX5_account_129 hM hS (Nat.le_of_ble_eq_true rfl) (Nat.le_of_ble_eq_true rfl) (by first | (simp only [acV, acOk, eq_false c_1_0, eq_false c_1_1, eq_false c_1_2, eq_false c_1_3, eq_true c_1_4, not_false_eq_true, not_true_eq_false, and_true, true_and, and_false, false_and, and_self, ↓reduceIte, or_true, true_or, or_self, or_false, false_or]; done) | (simp only [acV, acOk, eq_false c_1_0, eq_false c_1_1, eq_false c_1_2, eq_false c_1_3, eq_true c_1_4, not_false_eq_true, not_true_eq_false, and_true, true_and, and_false, false_and, and_self, ↓reduceIte, or_true, true_or, or_self, or_false, false_or]; rfl))
  by_cases c_1_5 : w = 5
  · skip
    have e_1 : w.toInt = 5 := by rw [c_1_5]; rfl
    refine lv_tableIn (tgt := 130) hx hb dX5_account_1 (by rw [e_1]; decide) (by rw [e_1]; decide) (by rw [e_1]; rfl) (by decide) ?_
    refine lv_aload_n hx hb dX5_account_130 rfl (lv_at hl 0 rfl) ?_
    refine gt_X5_10 hc dX5_account_131 hM hW.o rfl ?_
    refine gt_X5_131 hc dX5_account_134 hM (hW.flat (k := 0) (a := x + 1) (by decide) rfl).o rfl ?_
    refine k_V1 hc [] cw_X5_171 rfl dX5_account_137 (c_X3_size l hlf g _ (x + 4) 4 (cs 0 8 1) (cs 0 1) ((hW.flat (k := 0) (a := x + 1) (by decide) rfl).row (k := 1) (r := x + 4) (by decide) rfl rfl)) ((hW.flat (k := 0) (a := x + 1) (by decide) rfl).row (k := 1) (r := x + 4) (by decide) rfl rfl).1 hM hS hl.1 rfl rfl ⟨Nat.le_of_ble_eq_true rfl, Nat.le_of_ble_eq_true rfl⟩ ⟨Nat.le_of_ble_eq_true rfl, Nat.le_of_ble_eq_true rfl⟩ (Nat.le_of_ble_eq_true rfl) (fun H locs hM hS => ?_)
    exact k_iret hc hr dX5_account_140 hM hS (Nat.le_of_ble_eq_true rfl) (Nat.le_of_ble_eq_true rfl) (by first | (simp only [acV, acOk, eq_false c_1_0, eq_false c_1_1, eq_false c_1_2, eq_false c_1_3, eq_false c_1_4, eq_true c_1_5, not_false_eq_true, not_true_eq_false, and_true, true_and, and_false, false_and, and_self, ↓reduceIte, or_true, true_or, or_self, or_false, false_or]; done) | (simp only [acV, acOk, eq_false c_1_0, eq_false c_1_1, eq_false c_1_2, eq_false c_1_3, eq_false c_1_4, eq_true c_1_5, not_false_eq_true, not_true_eq_false, and_true, true_and, and_false, false_and, and_self, ↓reduceIte, or_true, true_or, or_self, or_false, false_or]; rfl))
  by_cases c_1_6 : w = 6
  · skip
    have e_1 : w.toInt = 6 := by rw [c_1_6]; rfl
    refine lv_tableIn (tgt := 141) hx hb dX5_account_1 (by rw [e_1]; decide) (by rw [e_1]; decide) (by rw [e_1]; rfl) (by decide) ?_
    refine lv_aload_n hx hb dX5_account_141 rfl (lv_at hl 0 rfl) ?_
    refine gt_X5_10 hc dX5_account_142 hM hW.o rfl ?_
    refine gt_X5_315 hc dX5_account_145 hM (hW.flat (k := 0) (a := x + 1) (by decide) rfl).o rfl ?_
    exact k_iret hc hr dX5_account_148 hM hS (Nat.le_of_ble_eq_true rfl) (Nat.le_of_ble_eq_true rfl) (by first | (simp only [acV, acOk, eq_false c_1_0, eq_false c_1_1, eq_false c_1_2, eq_false c_1_3, eq_false c_1_4, eq_false c_1_5, eq_true c_1_6, not_false_eq_true, not_true_eq_false, and_true, true_and, and_false, false_and, and_self, ↓reduceIte, or_true, true_or, or_self, or_false, false_or]; done) | (simp only [acV, acOk, eq_false c_1_0, eq_false c_1_1, eq_false c_1_2, eq_false c_1_3, eq_false c_1_4, eq_false c_1_5, eq_true c_1_6, not_false_eq_true, not_true_eq_false, and_true, true_and, and_false, false_and, and_self, ↓reduceIte, or_true, true_or, or_self, or_false, false_or]; rfl))
  by_cases c_1_7 : w = 7
  · skip
    have e_1 : w.toInt = 7 := by rw [c_1_7]; rfl
    refine lv_tableIn (tgt := 149) hx hb dX5_account_1 (by rw [e_1]; decide) (by rw [e_1]; decide) (by rw [e_1]; rfl) (by decide) ?_
    refine lv_aload_n hx hb dX5_account_149 rfl (lv_at hl 0 rfl) ?_
    refine gt_X5_10 hc dX5_account_150 hM hW.o rfl ?_
    refine lv_iconst (v := 0) hx hb dX5_account_153 (by decide) ?_
    refine k_V1 hc [.int 0] cw_X5_306 rfl dX5_account_154 (c_X0_countDrawn l hlf g _ (x + 1) (cs 0) 0 (hW.flat (k := 0) (a := x + 1) (by decide) rfl)) (hW.flat (k := 0) (a := x + 1) (by decide) rfl).o hM hS hl.1 rfl rfl ⟨Nat.le_of_ble_eq_true rfl, Nat.le_of_ble_eq_true rfl⟩ ⟨Nat.le_of_ble_eq_true rfl, Nat.le_of_ble_eq_true rfl⟩ (Nat.le_of_ble_eq_true rfl) (fun H locs hM hS => ?_)
    exact k_iret hc hr dX5_account_157 hM hS (Nat.le_of_ble_eq_true rfl) (Nat.le_of_ble_eq_true rfl) (by first | (simp only [acV, acOk, eq_false c_1_0, eq_false c_1_1, eq_false c_1_2, eq_false c_1_3, eq_false c_1_4, eq_false c_1_5, eq_false c_1_6, eq_true c_1_7, not_false_eq_true, not_true_eq_false, and_true, true_and, and_false, false_and, and_self, ↓reduceIte, or_true, true_or, or_self, or_false, false_or]; done) | (simp only [acV, acOk, eq_false c_1_0, eq_false c_1_1, eq_false c_1_2, eq_false c_1_3, eq_false c_1_4, eq_false c_1_5, eq_false c_1_6, eq_true c_1_7, not_false_eq_true, not_true_eq_false, and_true, true_and, and_false, false_and, and_self, ↓reduceIte, or_true, true_or, or_self, or_false, false_or]; rfl))
  by_cases c_1_8 : w = 8
  · skip
    have e_1 : w.toInt = 8 := by rw [c_1_8]; rfl
    refine lv_tableIn (tgt := 158) hx hb dX5_account_1 (by rw [e_1]; decide) (by rw [e_1]; decide) (by rw [e_1]; rfl) (by decide) ?_
    refine lv_aload_n hx hb dX5_account_158 rfl (lv_at hl 0 rfl) ?_
    refine gt_X5_10 hc dX5_account_159 hM hW.o rfl ?_
    refine gt_X5_137 hc dX5_account_162 hM (hW.flat (k := 0) (a := x + 1) (by decide) rfl).o rfl ?_
    refine k_V1 hc [] cw_X5_171 rfl dX5_account_165 (c_X3_size l hlf g _ (x + 10) 6 (cs 0 8 4) (cs 0 4) ((hW.flat (k := 0) (a := x + 1) (by decide) rfl).row (k := 4) (r := x + 10) (by decide) rfl rfl)) ((hW.flat (k := 0) (a := x + 1) (by decide) rfl).row (k := 4) (r := x + 10) (by decide) rfl rfl).1 hM hS hl.1 rfl rfl ⟨Nat.le_of_ble_eq_true rfl, Nat.le_of_ble_eq_true rfl⟩ ⟨Nat.le_of_ble_eq_true rfl, Nat.le_of_ble_eq_true rfl⟩ (Nat.le_of_ble_eq_true rfl) (fun H locs hM hS => ?_)
    exact k_iret hc hr dX5_account_168 hM hS (Nat.le_of_ble_eq_true rfl) (Nat.le_of_ble_eq_true rfl) (by first | (simp only [acV, acOk, eq_false c_1_0, eq_false c_1_1, eq_false c_1_2, eq_false c_1_3, eq_false c_1_4, eq_false c_1_5, eq_false c_1_6, eq_false c_1_7, eq_true c_1_8, not_false_eq_true, not_true_eq_false, and_true, true_and, and_false, false_and, and_self, ↓reduceIte, or_true, true_or, or_self, or_false, false_or]; done) | (simp only [acV, acOk, eq_false c_1_0, eq_false c_1_1, eq_false c_1_2, eq_false c_1_3, eq_false c_1_4, eq_false c_1_5, eq_false c_1_6, eq_false c_1_7, eq_true c_1_8, not_false_eq_true, not_true_eq_false, and_true, true_and, and_false, false_and, and_self, ↓reduceIte, or_true, true_or, or_self, or_false, false_or]; rfl))
  by_cases c_1_9 : w = 9
  · skip
    have e_1 : w.toInt = 9 := by rw [c_1_9]; rfl
    refine lv_tableIn (tgt := 169) hx hb dX5_account_1 (by rw [e_1]; decide) (by rw [e_1]; decide) (by rw [e_1]; rfl) (by decide) ?_
    refine lv_aload_n hx hb dX5_account_169 rfl (lv_at hl 0 rfl) ?_
    refine gt_X5_10 hc dX5_account_170 hM hW.o rfl ?_
    refine gt_X5_143 hc dX5_account_173 hM (hW.flat (k := 0) (a := x + 1) (by decide) rfl).o rfl ?_
    refine k_V1 hc [] cw_X5_303 rfl dX5_account_176 (c_X3_sum l hlf g _ (x + 14) 6 (cs 0 8 6) (cs 0 6) ((hW.flat (k := 0) (a := x + 1) (by decide) rfl).row (k := 6) (r := x + 14) (by decide) rfl rfl) (by decide)) ((hW.flat (k := 0) (a := x + 1) (by decide) rfl).row (k := 6) (r := x + 14) (by decide) rfl rfl).1 hM hS hl.1 rfl rfl ⟨Nat.le_of_ble_eq_true rfl, Nat.le_of_ble_eq_true rfl⟩ ⟨Nat.le_of_ble_eq_true rfl, Nat.le_of_ble_eq_true rfl⟩ (Nat.le_of_ble_eq_true rfl) (fun H locs hM hS => ?_)
    exact k_iret hc hr dX5_account_179 hM hS (Nat.le_of_ble_eq_true rfl) (Nat.le_of_ble_eq_true rfl) (by first | (simp only [acV, acOk, eq_false c_1_0, eq_false c_1_1, eq_false c_1_2, eq_false c_1_3, eq_false c_1_4, eq_false c_1_5, eq_false c_1_6, eq_false c_1_7, eq_false c_1_8, eq_true c_1_9, not_false_eq_true, not_true_eq_false, and_true, true_and, and_false, false_and, and_self, ↓reduceIte, or_true, true_or, or_self, or_false, false_or]; done) | (simp only [acV, acOk, eq_false c_1_0, eq_false c_1_1, eq_false c_1_2, eq_false c_1_3, eq_false c_1_4, eq_false c_1_5, eq_false c_1_6, eq_false c_1_7, eq_false c_1_8, eq_true c_1_9, not_false_eq_true, not_true_eq_false, and_true, true_and, and_false, false_and, and_self, ↓reduceIte, or_true, true_or, or_self, or_false, false_or]; rfl))
  by_cases c_1_10 : w = 10
  · skip
    have e_1 : w.toInt = 10 := by rw [c_1_10]; rfl
    refine lv_tableIn (tgt := 180) hx hb dX5_account_1 (by rw [e_1]; decide) (by rw [e_1]; decide) (by rw [e_1]; rfl) (by decide) ?_
    refine lv_aload_n hx hb dX5_account_180 rfl (lv_at hl 0 rfl) ?_
    refine gt_X5_10 hc dX5_account_181 hM hW.o rfl ?_
    refine k_V1 hc [] cw_X5_318 rfl dX5_account_184 (c_X0_countLost l hlf g _ (x + 1) (cs 0) (hW.flat (k := 0) (a := x + 1) (by decide) rfl)) (hW.flat (k := 0) (a := x + 1) (by decide) rfl).o hM hS hl.1 rfl rfl ⟨Nat.le_of_ble_eq_true rfl, Nat.le_of_ble_eq_true rfl⟩ ⟨Nat.le_of_ble_eq_true rfl, Nat.le_of_ble_eq_true rfl⟩ (Nat.le_of_ble_eq_true rfl) (fun H locs hM hS => ?_)
    exact k_iret hc hr dX5_account_187 hM hS (Nat.le_of_ble_eq_true rfl) (Nat.le_of_ble_eq_true rfl) (by first | (simp only [acV, acOk, eq_false c_1_0, eq_false c_1_1, eq_false c_1_2, eq_false c_1_3, eq_false c_1_4, eq_false c_1_5, eq_false c_1_6, eq_false c_1_7, eq_false c_1_8, eq_false c_1_9, eq_true c_1_10, not_false_eq_true, not_true_eq_false, and_true, true_and, and_false, false_and, and_self, ↓reduceIte, or_true, true_or, or_self, or_false, false_or]; done) | (simp only [acV, acOk, eq_false c_1_0, eq_false c_1_1, eq_false c_1_2, eq_false c_1_3, eq_false c_1_4, eq_false c_1_5, eq_false c_1_6, eq_false c_1_7, eq_false c_1_8, eq_false c_1_9, eq_true c_1_10, not_false_eq_true, not_true_eq_false, and_true, true_and, and_false, false_and, and_self, ↓reduceIte, or_true, true_or, or_self, or_false, false_or]; rfl))
  by_cases c_1_11 : w = 11
  · skip
    have e_1 : w.toInt = 11 := by rw [c_1_11]; rfl
    refine lv_tableIn (tgt := 188) hx hb dX5_account_1 (by rw [e_1]; decide) (by rw [e_1]; decide) (by rw [e_1]; rfl) (by decide) ?_
    refine lv_aload_n hx hb dX5_account_188 rfl (lv_at hl 0 rfl) ?_
    refine gt_X5_10 hc dX5_account_189 hM hW.o rfl ?_
    refine gt_X5_321 hc dX5_account_192 hM (hW.flat (k := 0) (a := x + 1) (by decide) rfl).o rfl ?_
    exact k_iret hc hr dX5_account_195 hM hS (Nat.le_of_ble_eq_true rfl) (Nat.le_of_ble_eq_true rfl) (by first | (simp only [acV, acOk, eq_false c_1_0, eq_false c_1_1, eq_false c_1_2, eq_false c_1_3, eq_false c_1_4, eq_false c_1_5, eq_false c_1_6, eq_false c_1_7, eq_false c_1_8, eq_false c_1_9, eq_false c_1_10, eq_true c_1_11, not_false_eq_true, not_true_eq_false, and_true, true_and, and_false, false_and, and_self, ↓reduceIte, or_true, true_or, or_self, or_false, false_or]; done) | (simp only [acV, acOk, eq_false c_1_0, eq_false c_1_1, eq_false c_1_2, eq_false c_1_3, eq_false c_1_4, eq_false c_1_5, eq_false c_1_6, eq_false c_1_7, eq_false c_1_8, eq_false c_1_9, eq_false c_1_10, eq_true c_1_11, not_false_eq_true, not_true_eq_false, and_true, true_and, and_false, false_and, and_self, ↓reduceIte, or_true, true_or, or_self, or_false, false_or]; rfl))
  by_cases c_1_12 : w = 12
  · skip
    have e_1 : w.toInt = 12 := by rw [c_1_12]; rfl
    refine lv_tableIn (tgt := 196) hx hb dX5_account_1 (by rw [e_1]; decide) (by rw [e_1]; decide) (by rw [e_1]; rfl) (by decide) ?_
    refine lv_aload_n hx hb dX5_account_196 rfl (lv_at hl 0 rfl) ?_
    refine gt_X5_10 hc dX5_account_197 hM hW.o rfl ?_
    refine gt_X5_150 hc dX5_account_200 hM (hW.flat (k := 0) (a := x + 1) (by decide) rfl).o rfl ?_
    refine k_V1 hc [] cw_X5_303 rfl dX5_account_203 (c_X3_sum l hlf g _ (x + 16) 6 (cs 0 8 7) (cs 0 7) ((hW.flat (k := 0) (a := x + 1) (by decide) rfl).row (k := 7) (r := x + 16) (by decide) rfl rfl) (by decide)) ((hW.flat (k := 0) (a := x + 1) (by decide) rfl).row (k := 7) (r := x + 16) (by decide) rfl rfl).1 hM hS hl.1 rfl rfl ⟨Nat.le_of_ble_eq_true rfl, Nat.le_of_ble_eq_true rfl⟩ ⟨Nat.le_of_ble_eq_true rfl, Nat.le_of_ble_eq_true rfl⟩ (Nat.le_of_ble_eq_true rfl) (fun H locs hM hS => ?_)
    exact k_iret hc hr dX5_account_206 hM hS (Nat.le_of_ble_eq_true rfl) (Nat.le_of_ble_eq_true rfl) (by first | (simp only [acV, acOk, eq_false c_1_0, eq_false c_1_1, eq_false c_1_2, eq_false c_1_3, eq_false c_1_4, eq_false c_1_5, eq_false c_1_6, eq_false c_1_7, eq_false c_1_8, eq_false c_1_9, eq_false c_1_10, eq_false c_1_11, eq_true c_1_12, not_false_eq_true, not_true_eq_false, and_true, true_and, and_false, false_and, and_self, ↓reduceIte, or_true, true_or, or_self, or_false, false_or]; done) | (simp only [acV, acOk, eq_false c_1_0, eq_false c_1_1, eq_false c_1_2, eq_false c_1_3, eq_false c_1_4, eq_false c_1_5, eq_false c_1_6, eq_false c_1_7, eq_false c_1_8, eq_false c_1_9, eq_false c_1_10, eq_false c_1_11, eq_true c_1_12, not_false_eq_true, not_true_eq_false, and_true, true_and, and_false, false_and, and_self, ↓reduceIte, or_true, true_or, or_self, or_false, false_or]; rfl))
  by_cases c_1_13 : w = 13
  · skip
    have e_1 : w.toInt = 13 := by rw [c_1_13]; rfl
    refine lv_tableIn (tgt := 207) hx hb dX5_account_1 (by rw [e_1]; decide) (by rw [e_1]; decide) (by rw [e_1]; rfl) (by decide) ?_
    refine lv_aload_n hx hb dX5_account_207 rfl (lv_at hl 0 rfl) ?_
    refine gt_X5_10 hc dX5_account_208 hM hW.o rfl ?_
    refine k_V1 hc [] cw_X5_324 rfl dX5_account_211 (c_X0_bellReach l hlf g _ (x + 1) (cs 0) (hW.flat (k := 0) (a := x + 1) (by decide) rfl)) (hW.flat (k := 0) (a := x + 1) (by decide) rfl).o hM hS hl.1 rfl rfl ⟨Nat.le_of_ble_eq_true rfl, Nat.le_of_ble_eq_true rfl⟩ ⟨Nat.le_of_ble_eq_true rfl, Nat.le_of_ble_eq_true rfl⟩ (Nat.le_of_ble_eq_true rfl) (fun H locs hM hS => ?_)
    exact k_iret hc hr dX5_account_214 hM hS (Nat.le_of_ble_eq_true rfl) (Nat.le_of_ble_eq_true rfl) (by first | (simp only [acV, acOk, eq_false c_1_0, eq_false c_1_1, eq_false c_1_2, eq_false c_1_3, eq_false c_1_4, eq_false c_1_5, eq_false c_1_6, eq_false c_1_7, eq_false c_1_8, eq_false c_1_9, eq_false c_1_10, eq_false c_1_11, eq_false c_1_12, eq_true c_1_13, not_false_eq_true, not_true_eq_false, and_true, true_and, and_false, false_and, and_self, ↓reduceIte, or_true, true_or, or_self, or_false, false_or]; done) | (simp only [acV, acOk, eq_false c_1_0, eq_false c_1_1, eq_false c_1_2, eq_false c_1_3, eq_false c_1_4, eq_false c_1_5, eq_false c_1_6, eq_false c_1_7, eq_false c_1_8, eq_false c_1_9, eq_false c_1_10, eq_false c_1_11, eq_false c_1_12, eq_true c_1_13, not_false_eq_true, not_true_eq_false, and_true, true_and, and_false, false_and, and_self, ↓reduceIte, or_true, true_or, or_self, or_false, false_or]; rfl))
  by_cases c_1_14 : w = 14
  · skip
    have e_1 : w.toInt = 14 := by rw [c_1_14]; rfl
    refine lv_tableIn (tgt := 215) hx hb dX5_account_1 (by rw [e_1]; decide) (by rw [e_1]; decide) (by rw [e_1]; rfl) (by decide) ?_
    refine lv_aload_n hx hb dX5_account_215 rfl (lv_at hl 0 rfl) ?_
    refine gt_X5_10 hc dX5_account_216 hM hW.o rfl ?_
    refine gt_X5_327 hc dX5_account_219 hM (hW.flat (k := 0) (a := x + 1) (by decide) rfl).o rfl ?_
    exact k_iret hc hr dX5_account_222 hM hS (Nat.le_of_ble_eq_true rfl) (Nat.le_of_ble_eq_true rfl) (by first | (simp only [acV, acOk, eq_false c_1_0, eq_false c_1_1, eq_false c_1_2, eq_false c_1_3, eq_false c_1_4, eq_false c_1_5, eq_false c_1_6, eq_false c_1_7, eq_false c_1_8, eq_false c_1_9, eq_false c_1_10, eq_false c_1_11, eq_false c_1_12, eq_false c_1_13, eq_true c_1_14, not_false_eq_true, not_true_eq_false, and_true, true_and, and_false, false_and, and_self, ↓reduceIte, or_true, true_or, or_self, or_false, false_or]; done) | (simp only [acV, acOk, eq_false c_1_0, eq_false c_1_1, eq_false c_1_2, eq_false c_1_3, eq_false c_1_4, eq_false c_1_5, eq_false c_1_6, eq_false c_1_7, eq_false c_1_8, eq_false c_1_9, eq_false c_1_10, eq_false c_1_11, eq_false c_1_12, eq_false c_1_13, eq_true c_1_14, not_false_eq_true, not_true_eq_false, and_true, true_and, and_false, false_and, and_self, ↓reduceIte, or_true, true_or, or_self, or_false, false_or]; rfl))
  by_cases c_1_15 : w = 15
  · skip
    have e_1 : w.toInt = 15 := by rw [c_1_15]; rfl
    refine lv_tableIn (tgt := 223) hx hb dX5_account_1 (by rw [e_1]; decide) (by rw [e_1]; decide) (by rw [e_1]; rfl) (by decide) ?_
    refine lv_aload_n hx hb dX5_account_223 rfl (lv_at hl 0 rfl) ?_
    refine gt_X5_25 hc dX5_account_224 hM hW.o rfl ?_
    refine k_V1 hc [] cw_X5_330 rfl dX5_account_227 (c_X1_size l hlf g _ x cs hW) hW.hi hM hS hl.1 rfl rfl ⟨Nat.le_of_ble_eq_true rfl, Nat.le_of_ble_eq_true rfl⟩ ⟨Nat.le_of_ble_eq_true rfl, Nat.le_of_ble_eq_true rfl⟩ (Nat.le_of_ble_eq_true rfl) (fun H locs hM hS => ?_)
    exact k_iret hc hr dX5_account_230 hM hS (Nat.le_of_ble_eq_true rfl) (Nat.le_of_ble_eq_true rfl) (by first | (simp only [acV, acOk, eq_false c_1_0, eq_false c_1_1, eq_false c_1_2, eq_false c_1_3, eq_false c_1_4, eq_false c_1_5, eq_false c_1_6, eq_false c_1_7, eq_false c_1_8, eq_false c_1_9, eq_false c_1_10, eq_false c_1_11, eq_false c_1_12, eq_false c_1_13, eq_false c_1_14, eq_true c_1_15, not_false_eq_true, not_true_eq_false, and_true, true_and, and_false, false_and, and_self, ↓reduceIte, or_true, true_or, or_self, or_false, false_or]; done) | (simp only [acV, acOk, eq_false c_1_0, eq_false c_1_1, eq_false c_1_2, eq_false c_1_3, eq_false c_1_4, eq_false c_1_5, eq_false c_1_6, eq_false c_1_7, eq_false c_1_8, eq_false c_1_9, eq_false c_1_10, eq_false c_1_11, eq_false c_1_12, eq_false c_1_13, eq_false c_1_14, eq_true c_1_15, not_false_eq_true, not_true_eq_false, and_true, true_and, and_false, false_and, and_self, ↓reduceIte, or_true, true_or, or_self, or_false, false_or]; rfl))
  by_cases c_1_16 : w = 16
  · skip
    have e_1 : w.toInt = 16 := by rw [c_1_16]; rfl
    refine lv_tableIn (tgt := 231) hx hb dX5_account_1 (by rw [e_1]; decide) (by rw [e_1]; decide) (by rw [e_1]; rfl) (by decide) ?_
    refine lv_aload_n hx hb dX5_account_231 rfl (lv_at hl 0 rfl) ?_
    refine gt_X5_32 hc dX5_account_232 hM hW.o rfl ?_
    refine k_V1 hc [] cw_X5_331 rfl dX5_account_235 (c_X4_length l hlf g _ x cs hW) hW.te hM hS hl.1 rfl rfl ⟨Nat.le_of_ble_eq_true rfl, Nat.le_of_ble_eq_true rfl⟩ ⟨Nat.le_of_ble_eq_true rfl, Nat.le_of_ble_eq_true rfl⟩ (Nat.le_of_ble_eq_true rfl) (fun H locs hM hS => ?_)
    exact k_iret hc hr dX5_account_238 hM hS (Nat.le_of_ble_eq_true rfl) (Nat.le_of_ble_eq_true rfl) (by first | (simp only [acV, acOk, eq_false c_1_0, eq_false c_1_1, eq_false c_1_2, eq_false c_1_3, eq_false c_1_4, eq_false c_1_5, eq_false c_1_6, eq_false c_1_7, eq_false c_1_8, eq_false c_1_9, eq_false c_1_10, eq_false c_1_11, eq_false c_1_12, eq_false c_1_13, eq_false c_1_14, eq_false c_1_15, eq_true c_1_16, not_false_eq_true, not_true_eq_false, and_true, true_and, and_false, false_and, and_self, ↓reduceIte, or_true, true_or, or_self, or_false, false_or]; done) | (simp only [acV, acOk, eq_false c_1_0, eq_false c_1_1, eq_false c_1_2, eq_false c_1_3, eq_false c_1_4, eq_false c_1_5, eq_false c_1_6, eq_false c_1_7, eq_false c_1_8, eq_false c_1_9, eq_false c_1_10, eq_false c_1_11, eq_false c_1_12, eq_false c_1_13, eq_false c_1_14, eq_false c_1_15, eq_true c_1_16, not_false_eq_true, not_true_eq_false, and_true, true_and, and_false, false_and, and_self, ↓reduceIte, or_true, true_or, or_self, or_false, false_or]; rfl))
  have t_1 : (w.toInt < 0 ∨ 16 < w.toInt) ∨ (¬ w.toInt < 0 ∧ ¬ 16 < w.toInt ∧ (#[(83 : Int), (91 : Int), (102 : Int), (110 : Int), (118 : Int), (129 : Int), (140 : Int), (148 : Int), (157 : Int), (168 : Int), (179 : Int), (187 : Int), (195 : Int), (206 : Int), (214 : Int), (222 : Int), (230 : Int)] : Array Int)[(w.toInt - 0).toNat]? = some 238) := by
    by_cases h1 : w.toInt < 0
    · exact Or.inl (Or.inl h1)
    by_cases h2 : 16 < w.toInt
    · exact Or.inl (Or.inr h2)
    exact Or.inr ⟨h1, h2, tab_df (n := 17) (exc := [0, 1, 2, 3, 4, 5, 6, 7, 8, 9, 10, 11, 12, 13, 14, 15, 16]) (by decide) h1 h2 (by decide) (exc_c (tab_ne c_1_0 (by decide) h1) (exc_c (tab_ne c_1_1 (by decide) h1) (exc_c (tab_ne c_1_2 (by decide) h1) (exc_c (tab_ne c_1_3 (by decide) h1) (exc_c (tab_ne c_1_4 (by decide) h1) (exc_c (tab_ne c_1_5 (by decide) h1) (exc_c (tab_ne c_1_6 (by decide) h1) (exc_c (tab_ne c_1_7 (by decide) h1) (exc_c (tab_ne c_1_8 (by decide) h1) (exc_c (tab_ne c_1_9 (by decide) h1) (exc_c (tab_ne c_1_10 (by decide) h1) (exc_c (tab_ne c_1_11 (by decide) h1) (exc_c (tab_ne c_1_12 (by decide) h1) (exc_c (tab_ne c_1_13 (by decide) h1) (exc_c (tab_ne c_1_14 (by decide) h1) (exc_c (tab_ne c_1_15 (by decide) h1) (exc_c (tab_ne c_1_16 (by decide) h1) exc_n)))))))))))))))))⟩
  refine k_tabDf (tgt := 239) hx hb dX5_account_1 t_1 (by decide) ?_
  exact k_throwW hc hnx th_IllegalArgumentException 29 tx_29 hM hS hl.1 dX5_account_239 dX5_account_242 dX5_account_243 dX5_account_246 dX5_account_249 ⟨Nat.le_of_ble_eq_true rfl, Nat.le_of_ble_eq_true rfl, Nat.le_of_ble_eq_true rfl, Nat.le_of_ble_eq_true rfl⟩ (Nat.le_of_ble_eq_true rfl) (Nat.le_of_ble_eq_true rfl) (by first | (simp only [acV, acOk, eq_false c_1_0, eq_false c_1_1, eq_false c_1_2, eq_false c_1_3, eq_false c_1_4, eq_false c_1_5, eq_false c_1_6, eq_false c_1_7, eq_false c_1_8, eq_false c_1_9, eq_false c_1_10, eq_false c_1_11, eq_false c_1_12, eq_false c_1_13, eq_false c_1_14, eq_false c_1_15, eq_false c_1_16, not_false_eq_true, not_true_eq_false, and_true, true_and, and_false, false_and, and_self, ↓reduceIte, or_true, true_or, or_self, or_false, false_or]; done) | (simp only [acV, acOk, eq_false c_1_0, eq_false c_1_1, eq_false c_1_2, eq_false c_1_3, eq_false c_1_4, eq_false c_1_5, eq_false c_1_6, eq_false c_1_7, eq_false c_1_8, eq_false c_1_9, eq_false c_1_10, eq_false c_1_11, eq_false c_1_12, eq_false c_1_13, eq_false c_1_14, eq_false c_1_15, eq_false c_1_16, not_false_eq_true, not_true_eq_false, and_true, true_and, and_false, false_and, and_self, ↓reduceIte, or_true, true_or, or_self, or_false, false_or]; rfl))
set_option maxHeartbeats 4000000 in
set_option maxRecDepth 100000 in
theorem c_X5_undo (l : Launch) (hlf : l.stackTraces = false) (g : GC) (M : HM) (x : Nat) (cs : CS) (hW : ClsAt g M x cs) (hn : nxOk cs) : KM g l yX5_undo cX5_undo 1 (some .int) 6 3 18 [.ref x] M (if ¬ cs 11 3 5 = 0 then .inl (some (.int (tbS cs 11 3 5)), (putC g M x (tbS cs))) else .inr ("java/lang/IllegalStateException", M)) := by
  refine k_meth hlf (by decide) (Nat.le_of_ble_eq_true rfl) fun p e s m below meth c ls hc hr hnx hM hS hl => ?_
  have hc : Cx g p l s m [.ref x].toArray meth c cX5_undo 1 RX5 := hc
  have hx := hc.1
  have hb := hc.2.1
  have hl : lv_has ls 1 [(0, .ref x)] := hl
  refine lv_aload_n hx hb dX5_undo_0 rfl (lv_at hl 0 rfl) ?_
  refine gt_X5_25 hc dX5_undo_1 hM hW.o rfl ?_
  refine k_V1 hc [] cw_X5_330 rfl dX5_undo_4 (c_X1_size l hlf g _ x cs hW) hW.hi hM hS hl.1 rfl rfl ⟨Nat.le_of_ble_eq_true rfl, Nat.le_of_ble_eq_true rfl⟩ ⟨Nat.le_of_ble_eq_true rfl, Nat.le_of_ble_eq_true rfl⟩ (Nat.le_of_ble_eq_true rfl) (fun H locs hM hS => ?_)
  refine lv_if_ne (tgt := 21) hx hb dX5_undo_7 (by decide) (fun c_7 => ?_) (fun c_7 => ?_)
  · skip
    refine lv_aload_n hx hb dX5_undo_21 rfl (lv_at hl 0 rfl) ?_
    refine gt_X5_25 hc dX5_undo_22 hM hW.o rfl ?_
    refine lv_aload_n hx hb dX5_undo_25 rfl (lv_at hl 0 rfl) ?_
    refine gt_X5_10 hc dX5_undo_26 hM hW.o rfl ?_
    refine k_V0 hc [.ref (x + 1)] cw_X5_336 rfl dX5_undo_29 (c_X1_takeBack l hlf g _ x cs hW hn) hW.hi hM hS hl.1 rfl rfl ⟨Nat.le_of_ble_eq_true rfl, Nat.le_of_ble_eq_true rfl⟩ ⟨Nat.le_of_ble_eq_true rfl, Nat.le_of_ble_eq_true rfl⟩ (Nat.le_of_ble_eq_true rfl) (fun H locs hM hS => ?_)
    have hW := ClsAt.put (g := g) (M := M) (x := x) (cs := (tbS cs))
    refine lv_aload_n hx hb dX5_undo_32 rfl (lv_at hl 0 rfl) ?_
    refine gt_X5_25 hc dX5_undo_33 hM hW.o rfl ?_
    refine k_V1 hc [] cw_X5_330 rfl dX5_undo_36 (c_X1_size l hlf g _ x (tbS cs) hW) hW.hi hM hS hl.1 rfl rfl ⟨Nat.le_of_ble_eq_true rfl, Nat.le_of_ble_eq_true rfl⟩ ⟨Nat.le_of_ble_eq_true rfl, Nat.le_of_ble_eq_true rfl⟩ (Nat.le_of_ble_eq_true rfl) (fun H locs hM hS => ?_)
    exact k_iret hc hr dX5_undo_39 hM hS (Nat.le_of_ble_eq_true rfl) (Nat.le_of_ble_eq_true rfl) (by first | (simp only [eq_false c_7, not_false_eq_true, not_true_eq_false, and_true, true_and, and_false, false_and, and_self, ↓reduceIte, or_true, true_or, or_self, or_false, false_or]; done) | (simp only [eq_false c_7, not_false_eq_true, not_true_eq_false, and_true, true_and, and_false, false_and, and_self, ↓reduceIte, or_true, true_or, or_self, or_false, false_or]; rfl))
  · skip
    exact k_throwW hc hnx th_IllegalStateException 30 tx_30 hM hS hl.1 dX5_undo_10 dX5_undo_13 dX5_undo_14 dX5_undo_17 dX5_undo_20 ⟨Nat.le_of_ble_eq_true rfl, Nat.le_of_ble_eq_true rfl, Nat.le_of_ble_eq_true rfl, Nat.le_of_ble_eq_true rfl⟩ (Nat.le_of_ble_eq_true rfl) (Nat.le_of_ble_eq_true rfl) (by first | (simp only [eq_true c_7, not_false_eq_true, not_true_eq_false, and_true, true_and, and_false, false_and, and_self, ↓reduceIte, or_true, true_or, or_self, or_false, false_or]; done) | (simp only [eq_true c_7, not_false_eq_true, not_true_eq_false, and_true, true_and, and_false, false_and, and_self, ↓reduceIte, or_true, true_or, or_self, or_false, false_or]; rfl))
set_option maxHeartbeats 4000000 in
set_option maxRecDepth 100000 in
theorem c_X5_save (l : Launch) (hlf : l.stackTraces = false) (g : GC) (M : HM) (x : Nat) (cs : CS) (hW : ClsAt g M x cs) : KM g l yX5_save cX5_save 1 (some .int) 4 0 0 [.ref x] M (.inl (some (.int (cs 0 9 1)), (putC g M x (upS (upC cs 2 (cs 0)) 7 1)))) := by
  refine k_meth hlf (by decide) (Nat.le_of_ble_eq_true rfl) fun p e s m below meth c ls hc hr hnx hM hS hl => ?_
  have hc : Cx g p l s m [.ref x].toArray meth c cX5_save 1 RX5 := hc
  have hx := hc.1
  have hb := hc.2.1
  have hl : lv_has ls 1 [(0, .ref x)] := hl
  refine lv_aload_n hx hb dX5_save_0 rfl (lv_at hl 0 rfl) ?_
  refine gt_X5_19 hc dX5_save_1 hM hW.o rfl ?_
  refine lv_aload_n hx hb dX5_save_4 rfl (lv_at hl 0 rfl) ?_
  refine gt_X5_10 hc dX5_save_5 hM hW.o rfl ?_
  refine k_V0 hc [.ref (x + 1)] cw_X5_270 rfl dX5_save_8 (c_X0_copyFrom l hlf g _ (x + 35) (x + 1) (cs 2) (cs 0) (hW.flat (k := 2) (a := x + 35) (by decide) rfl) (hW.flat (k := 0) (a := x + 1) (by decide) rfl) (by omega)) (hW.flat (k := 2) (a := x + 35) (by decide) rfl).o hM hS hl.1 rfl rfl ⟨Nat.le_of_ble_eq_true rfl, Nat.le_of_ble_eq_true rfl⟩ ⟨Nat.le_of_ble_eq_true rfl, Nat.le_of_ble_eq_true rfl⟩ (Nat.le_of_ble_eq_true rfl) (fun H locs hM hS => ?_)
  have hM := hR.eq hM (putC_flat hW (k := 2) (by decide) rfl)
  have hW := ClsAt.put (g := g) (M := M) (x := x) (cs := (upC cs 2 (cs 0)))
  refine lv_aload_n hx hb dX5_save_11 rfl (lv_at hl 0 rfl) ?_
  refine lv_iconst (v := 1) hx hb dX5_save_12 (by decide) ?_
  refine pt_X5_43 hc dX5_save_13 hM hS hW.o (by first | rfl | exact bI_n) (by first | rfl | exact bI_fit) (Nat.le_of_ble_eq_true rfl) (fun H locs hM hS => ?_)
  have hM := hR.eq hM (putC_ob hW 7 (v := 1) (by decide) ob_s7)
  have hM := hR.eq hM putC_putC
  have hW := ClsAt.put (g := g) (M := M) (x := x) (cs := (upS (upC cs 2 (cs 0)) 7 1))
  refine lv_aload_n hx hb dX5_save_16 rfl (lv_at hl 0 rfl) ?_
  refine gt_X5_10 hc dX5_save_17 hM hW.o rfl ?_
  refine gt_X5_204 hc dX5_save_20 hM (hW.flat (k := 0) (a := x + 1) (by decide) rfl).o rfl ?_
  exact k_iret hc hr dX5_save_23 hM hS (Nat.le_of_ble_eq_true rfl) (Nat.le_of_ble_eq_true rfl) (by rfl)
set_option maxHeartbeats 4000000 in
set_option maxRecDepth 100000 in
theorem c_X5_restore (l : Launch) (hlf : l.stackTraces = false) (g : GC) (M : HM) (x : Nat) (cs : CS) (hW : ClsAt g M x cs) : KM g l yX5_restore cX5_restore 1 (some .int) 6 3 18 [.ref x] M (if ¬ cs 11 3 7 = 0 then .inl (some (.int (cs 2 9 1)), (putC g M x (upS (upC cs 0 (cs 2)) 5 0))) else .inr ("java/lang/IllegalStateException", M)) := by
  refine k_meth hlf (by decide) (Nat.le_of_ble_eq_true rfl) fun p e s m below meth c ls hc hr hnx hM hS hl => ?_
  have hc : Cx g p l s m [.ref x].toArray meth c cX5_restore 1 RX5 := hc
  have hx := hc.1
  have hb := hc.2.1
  have hl : lv_has ls 1 [(0, .ref x)] := hl
  refine lv_aload_n hx hb dX5_restore_0 rfl (lv_at hl 0 rfl) ?_
  refine gt_X5_43 hc dX5_restore_1 hM hW.o rfl ?_
  refine lv_if_ne (tgt := 18) hx hb dX5_restore_4 (by decide) (fun c_4 => ?_) (fun c_4 => ?_)
  · skip
    refine lv_aload_n hx hb dX5_restore_18 rfl (lv_at hl 0 rfl) ?_
    refine gt_X5_10 hc dX5_restore_19 hM hW.o rfl ?_
    refine lv_aload_n hx hb dX5_restore_22 rfl (lv_at hl 0 rfl) ?_
    refine gt_X5_19 hc dX5_restore_23 hM hW.o rfl ?_
    refine k_V0 hc [.ref (x + 35)] cw_X5_270 rfl dX5_restore_26 (c_X0_copyFrom l hlf g _ (x + 1) (x + 35) (cs 0) (cs 2) (hW.flat (k := 0) (a := x + 1) (by decide) rfl) (hW.flat (k := 2) (a := x + 35) (by decide) rfl) (by omega)) (hW.flat (k := 0) (a := x + 1) (by decide) rfl).o hM hS hl.1 rfl rfl ⟨Nat.le_of_ble_eq_true rfl, Nat.le_of_ble_eq_true rfl⟩ ⟨Nat.le_of_ble_eq_true rfl, Nat.le_of_ble_eq_true rfl⟩ (Nat.le_of_ble_eq_true rfl) (fun H locs hM hS => ?_)
    have hM := hR.eq hM (putC_flat hW (k := 0) (by decide) rfl)
    have hW := ClsAt.put (g := g) (M := M) (x := x) (cs := (upC cs 0 (cs 2)))
    refine lv_aload_n hx hb dX5_restore_29 rfl (lv_at hl 0 rfl) ?_
    refine gt_X5_25 hc dX5_restore_30 hM hW.o rfl ?_
    refine k_V0 hc [] cw_X5_341 rfl dX5_restore_33 (c_X1_forget l hlf g _ x (upC cs 0 (cs 2)) hW) hW.hi hM hS hl.1 rfl rfl ⟨Nat.le_of_ble_eq_true rfl, Nat.le_of_ble_eq_true rfl⟩ ⟨Nat.le_of_ble_eq_true rfl, Nat.le_of_ble_eq_true rfl⟩ (Nat.le_of_ble_eq_true rfl) (fun H locs hM hS => ?_)
    have hM := hR.eq hM putC_putC
    have hW := ClsAt.put (g := g) (M := M) (x := x) (cs := (upS (upC cs 0 (cs 2)) 5 0))
    refine lv_aload_n hx hb dX5_restore_36 rfl (lv_at hl 0 rfl) ?_
    refine gt_X5_10 hc dX5_restore_37 hM hW.o rfl ?_
    refine gt_X5_204 hc dX5_restore_40 hM (hW.flat (k := 0) (a := x + 1) (by decide) rfl).o rfl ?_
    exact k_iret hc hr dX5_restore_43 hM hS (Nat.le_of_ble_eq_true rfl) (Nat.le_of_ble_eq_true rfl) (by first | (simp only [eq_false c_4, not_false_eq_true, not_true_eq_false, and_true, true_and, and_false, false_and, and_self, ↓reduceIte, or_true, true_or, or_self, or_false, false_or]; done) | (simp only [eq_false c_4, not_false_eq_true, not_true_eq_false, and_true, true_and, and_false, false_and, and_self, ↓reduceIte, or_true, true_or, or_self, or_false, false_or]; rfl))
  · skip
    exact k_throwW hc hnx th_IllegalStateException 31 tx_31 hM hS hl.1 dX5_restore_7 dX5_restore_10 dX5_restore_11 dX5_restore_14 dX5_restore_17 ⟨Nat.le_of_ble_eq_true rfl, Nat.le_of_ble_eq_true rfl, Nat.le_of_ble_eq_true rfl, Nat.le_of_ble_eq_true rfl⟩ (Nat.le_of_ble_eq_true rfl) (Nat.le_of_ble_eq_true rfl) (by first | (simp only [eq_true c_4, not_false_eq_true, not_true_eq_false, and_true, true_and, and_false, false_and, and_self, ↓reduceIte, or_true, true_or, or_self, or_false, false_or]; done) | (simp only [eq_true c_4, not_false_eq_true, not_true_eq_false, and_true, true_and, and_false, false_and, and_self, ↓reduceIte, or_true, true_or, or_self, or_false, false_or]; rfl))
