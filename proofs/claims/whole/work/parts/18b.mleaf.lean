/-! the reference, a part -/
set_option maxHeartbeats 4000000 in
set_option maxRecDepth 100000 in
theorem c_X6_thrown (l : Launch) (hlf : l.stackTraces = false) (g : GC) (M : HM) (q : Nat) (md : FL) (hW : MdAt g M q md) : KM g l yX6_thrown cX6_thrown 1 (some .int) 1 0 0 [.ref q] M (.inl (some (.int (md 7 19)), M)) := by
  refine k_meth hlf (by decide) (Nat.le_of_ble_eq_true rfl) fun p e s m below meth c ls hc hr hnx hM hS hl => ?_
  have hc : Cx g p l s m [.ref q].toArray meth c cX6_thrown 1 RX6 := hc
  have hx := hc.1
  have hb := hc.2.1
  have hl : lv_has ls 1 [(0, .ref q)] := hl
  refine lv_aload_n hx hb dX6_thrown_0 rfl (lv_at hl 0 rfl) ?_
  refine gt_X6_36 hc dX6_thrown_1 hM hW.o rfl ?_
  exact k_iret hc hr dX6_thrown_4 hM hS (Nat.le_of_ble_eq_true rfl) (Nat.le_of_ble_eq_true rfl) (by rfl)
set_option maxHeartbeats 4000000 in
set_option maxRecDepth 100000 in
theorem c_X6_raises (l : Launch) (hlf : l.stackTraces = false) (g : GC) (M : HM) (q : Nat) (md : FL) (v : Int32) (hW : MdAt g M q md) : KM g l yX6_raises cX6_raises 2 (some .int) 1 0 0 [.ref q, .int v] M (.inl (some (.int 0), (putD g M q (up2 md 7 19 v)))) := by
  refine k_meth hlf (by decide) (Nat.le_of_ble_eq_true rfl) fun p e s m below meth c ls hc hr hnx hM hS hl => ?_
  have hc : Cx g p l s m [.ref q, .int v].toArray meth c cX6_raises 2 RX6 := hc
  have hx := hc.1
  have hb := hc.2.1
  have hl : lv_has ls 2 [(0, .ref q), (1, .int v)] := hl
  refine lv_aload_n hx hb dX6_raises_0 rfl (lv_at hl 0 rfl) ?_
  refine lv_iload_n hx hb dX6_raises_1 rfl (lv_at hl 1 rfl) ?_
  refine pt_X6_36 hc dX6_raises_2 hM hS hW.o rfl rfl (Nat.le_of_ble_eq_true rfl) (fun H locs hM hS => ?_)
  have hM := hR.eq hM (putD_sc hW 19 (v := v) md_s19)
  have hW := MdAt.put (g := g) (M := M) (m := q) (md := (up2 md 7 19 v))
  refine lv_iconst (v := 0) hx hb dX6_raises_5 (by decide) ?_
  exact k_iret hc hr dX6_raises_6 hM hS (Nat.le_of_ble_eq_true rfl) (Nat.le_of_ble_eq_true rfl) (by rfl)
set_option maxHeartbeats 4000000 in
set_option maxRecDepth 100000 in
theorem c_X6_in (l : Launch) (hlf : l.stackTraces = false) (g : GC) (M : HM) (v : Int32) (u : Int32) (w : Int32) : KM g l yX6_in cX6_in 3 (some .boolean) 1 0 0 [.int v, .int u, .int w] M (.inl (some (.int (bI (inB v u w))), M)) := by
  refine k_meth hlf (by decide) (Nat.le_of_ble_eq_true rfl) fun p e s m below meth c ls hc hr hnx hM hS hl => ?_
  have hc : Cx g p l s m [.int v, .int u, .int w].toArray meth c cX6_in 3 RX6 := hc
  have hx := hc.1
  have hb := hc.2.1
  have hl : lv_has ls 3 [(0, .int v), (1, .int u), (2, .int w)] := hl
  refine lv_iload_n hx hb dX6_in_0 rfl (lv_at hl 0 rfl) ?_
  refine lv_iload_n hx hb dX6_in_1 rfl (lv_at hl 1 rfl) ?_
  refine lv_icmp_lt (tgt := 14) hx hb dX6_in_2 (by decide) (fun c_2 => ?_) (fun c_2 => ?_)
  · skip
    refine lv_iconst (v := 0) hx hb dX6_in_14 (by decide) ?_
    exact k_zret hc hr dX6_in_15 hM hS (by first | rfl | exact bI_n) (Nat.le_of_ble_eq_true rfl) (Nat.le_of_ble_eq_true rfl) (by first | rfl | (simp only [bI, inB, eq_true c_2, eq_self, bM_l, bM_r, rsM_l, rsM_r, seV_l, seV_r, snE_l, snE_r, up1_at, up1_up1, up2_up2, not_false_eq_true, not_true_eq_false, and_true, true_and, and_false, false_and, and_self, ↓reduceIte, or_true, true_or, or_self, or_false, false_or]; done) | (simp only [bI, inB, eq_true c_2, eq_self, bM_l, bM_r, rsM_l, rsM_r, seV_l, seV_r, snE_l, snE_r, up1_at, up1_up1, up2_up2, not_false_eq_true, not_true_eq_false, and_true, true_and, and_false, false_and, and_self, ↓reduceIte, or_true, true_or, or_self, or_false, false_or]; rfl))
  · skip
    refine lv_iload_n hx hb dX6_in_5 rfl (lv_at hl 0 rfl) ?_
    refine lv_iload_n hx hb dX6_in_6 rfl (lv_at hl 2 rfl) ?_
    refine lv_icmp_gt (tgt := 14) hx hb dX6_in_7 (by decide) (fun c_7 => ?_) (fun c_7 => ?_)
    · skip
      refine lv_iconst (v := 0) hx hb dX6_in_14 (by decide) ?_
      exact k_zret hc hr dX6_in_15 hM hS (by first | rfl | exact bI_n) (Nat.le_of_ble_eq_true rfl) (Nat.le_of_ble_eq_true rfl) (by first | rfl | (simp only [bI, inB, eq_false c_2, eq_true c_7, eq_self, bM_l, bM_r, rsM_l, rsM_r, seV_l, seV_r, snE_l, snE_r, up1_at, up1_up1, up2_up2, not_false_eq_true, not_true_eq_false, and_true, true_and, and_false, false_and, and_self, ↓reduceIte, or_true, true_or, or_self, or_false, false_or]; done) | (simp only [bI, inB, eq_false c_2, eq_true c_7, eq_self, bM_l, bM_r, rsM_l, rsM_r, seV_l, seV_r, snE_l, snE_r, up1_at, up1_up1, up2_up2, not_false_eq_true, not_true_eq_false, and_true, true_and, and_false, false_and, and_self, ↓reduceIte, or_true, true_or, or_self, or_false, false_or]; rfl))
    · skip
      refine lv_iconst (v := 1) hx hb dX6_in_10 (by decide) ?_
      refine lv_goto (tgt := 15) hx hb dX6_in_11 (by decide) ?_
      exact k_zret hc hr dX6_in_15 hM hS (by first | rfl | exact bI_n) (Nat.le_of_ble_eq_true rfl) (Nat.le_of_ble_eq_true rfl) (by first | rfl | (simp only [bI, inB, eq_false c_2, eq_false c_7, eq_self, bM_l, bM_r, rsM_l, rsM_r, seV_l, seV_r, snE_l, snE_r, up1_at, up1_up1, up2_up2, not_false_eq_true, not_true_eq_false, and_true, true_and, and_false, false_and, and_self, ↓reduceIte, or_true, true_or, or_self, or_false, false_or]; done) | (simp only [bI, inB, eq_false c_2, eq_false c_7, eq_self, bM_l, bM_r, rsM_l, rsM_r, seV_l, seV_r, snE_l, snE_r, up1_at, up1_up1, up2_up2, not_false_eq_true, not_true_eq_false, and_true, true_and, and_false, false_and, and_self, ↓reduceIte, or_true, true_or, or_self, or_false, false_or]; rfl))
set_option maxHeartbeats 4000000 in
set_option maxRecDepth 100000 in
theorem c_X6_tries (l : Launch) (hlf : l.stackTraces = false) (g : GC) (M : HM) (q : Nat) (md : FL) (hW : MdAt g M q md) : KM g l yX6_tries cX6_tries 2 none 1 0 0 [.ref q] M (.inl (none, (putD g M q (trM md)))) := by
  refine k_meth hlf (by decide) (Nat.le_of_ble_eq_true rfl) fun p e s m below meth c ls hc hr hnx hM hS hl => ?_
  have hc : Cx g p l s m [.ref q].toArray meth c cX6_tries 2 RX6 := hc
  have hx := hc.1
  have hb := hc.2.1
  have hl : lv_has ls 2 [(0, .ref q)] := hl
  refine lv_aload_n hx hb dX6_tries_0 rfl (lv_at hl 0 rfl) ?_
  refine lv_iconst (v := 0) hx hb dX6_tries_1 (by decide) ?_
  refine pt_X6_36 hc dX6_tries_2 hM hS hW.o rfl rfl (Nat.le_of_ble_eq_true rfl) (fun H locs hM hS => ?_)
  have hM := hR.eq hM (putD_sc hW 19 (v := 0) md_s19)
  have hW := MdAt.put (g := g) (M := M) (m := q) (md := (up2 md 7 19 0))
  refine lv_aload_n hx hb dX6_tries_5 rfl (lv_at hl 0 rfl) ?_
  refine lv_iconst (v := 0) hx hb dX6_tries_6 (by decide) ?_
  refine pt_X6_39 hc dX6_tries_7 hM hS hW.o rfl rfl (Nat.le_of_ble_eq_true rfl) (fun H locs hM hS => ?_)
  have hM := hR.eq hM (putD_sc hW 16 (v := 0) md_s16)
  have hM := hR.eq hM putD_putD
  have hW := MdAt.put (g := g) (M := M) (m := q) (md := (up2 (up2 md 7 19 0) 7 16 0))
  refine lv_iconst (v := 0) hx hb dX6_tries_10 (by decide) ?_
  refine lv_istore_n (lv' := [(1, .int 0), (0, .ref q)]) hx hb dX6_tries_11 rfl hl (by decide) rfl (fun ls hl => ?_)
  have lp_12 : ∀ (D k : Nat), 81 - k < D → k ≤ 81 → ∀ (ls : Array Slot) (H : Heap) (locs : List Loc), hR g (putD g M q (up1 (up2 (up2 md 7 19 0) 7 16 0) 1 (cpy k (md 0) (md 1)))) H → va_S (gA g) s.heap H locs → lv_has ls 2 [(1, .int (nI k)), (0, .ref q)] → W p l e (rmOf 1 0 0) s m [.ref q].toArray below meth c H locs 0 0 (vx_MQ below (KQ g (.inl (none, (putD g M q (trM md))))) (KX g (.inl (none, (putD g M q (trM md))))) [.ref q].toArray s 0 0 (gA g)) (F0 m 12 ls []) := by
    intro D
    induction D with
    | zero => intro k hD; exact absurd hD (Nat.not_lt_zero _)
    | succ D ih_12 =>
      intro k hD hk ls H locs hM hS hl
      have hW := MdAt.put (g := g) (M := M) (m := q) (md := (up1 (up2 (up2 md 7 19 0) 7 16 0) 1 (cpy k (md 0) (md 1))))
      refine lv_iload_n hx hb dX6_tries_12 rfl (lv_at hl 0 rfl) ?_
      refine lv_bipush (v := 81) hx hb dX6_tries_13 (by decide) ?_
      refine lv_icmp_ge (tgt := 36) hx hb dX6_tries_15 (by decide) (fun c_15 => ?_) (fun c_15 => ?_)
      · skip
        have c_15 := (k_leL (b := 81) rfl (by decide) (by omega)).mp c_15
        have hM : hR g (putD g M q (up1 (up2 (up2 md 7 19 0) 7 16 0) 1 (md 0))) _ := hR.extD hM (fun z hz i hi => by
          by_cases hj : z = 1
          · subst hj
            rw [up1_at, up1_at]
            have hi : i < 81 := hi
            exact if_pos (by omega)
          · rw [up1_ne hj, up1_ne hj]) rfl
        have hW := MdAt.put (g := g) (M := M) (m := q) (md := (up1 (up2 (up2 md 7 19 0) 7 16 0) 1 (md 0)))
        exact k_vret hc hr dX6_tries_36 hM hS (Nat.le_of_ble_eq_true rfl) (Nat.le_of_ble_eq_true rfl) (by rfl)
      · skip
        have c_15 : ¬ 81 ≤ k := fun h => c_15 ((k_leL (b := 81) rfl (by decide) (by omega)).mpr h)
        refine lv_aload_n hx hb dX6_tries_18 rfl (lv_at hl 1 rfl) ?_
        refine gt_X6_13 hc dX6_tries_19 hM hW.o rfl ?_
        refine lv_iload_n hx hb dX6_tries_22 rfl (lv_at hl 0 rfl) ?_
        refine lv_aload_n hx hb dX6_tries_23 rfl (lv_at hl 1 rfl) ?_
        refine gt_X6_9 hc dX6_tries_24 hM hW.o rfl ?_
        refine lv_iload_n hx hb dX6_tries_27 rfl (lv_at hl 0 rfl) ?_
        refine k_ialdN hc hM (n := 81) (hW.ar 0 (by decide) (by decide) rfl rfl) (X := k) rfl (by omega) (by decide) dX6_tries_28 ?_
        refine k_iastN hc hM hS (n := 81) (hW.ar 1 (by decide) (by decide) rfl rfl) (X := k) rfl (by omega) (by decide) dX6_tries_29 (fun H locs hM hS => ?_)
        have hM := hR.eq hM (putD_ar hW 1 (by decide) (by decide) rfl rfl)
        have hM := hR.eq hM putD_putD
        have hW := MdAt.put (g := g) (M := M) (m := q) (md := (up1 (up1 (up2 (up2 md 7 19 0) 7 16 0) 1 (cpy k (md 0) (md 1))) 1 (upd ((up1 (up2 (up2 md 7 19 0) 7 16 0) 1 (cpy k (md 0) (md 1))) 1) k (((up1 (up2 (up2 md 7 19 0) 7 16 0) 1 (cpy k (md 0) (md 1))) 0) k))))
        refine lv_iinc (v := (nI (k + 1))) (lv' := [(1, .int (nI (k + 1))), (0, .ref q)]) hx hb dX6_tries_30 hl (k := 0) rfl (k_inc1 _) (by decide) rfl (fun ls hl => ?_)
        refine lv_goto (tgt := 12) hx hb dX6_tries_33 (by decide) ?_
        have hM : hR g (putD g M q (up1 (up2 (up2 md 7 19 0) 7 16 0) 1 (cpy (k + 1) (md 0) (md 1)))) _ := hR.eq hM (congrArg (putD g M q) (by rw [up1_up1]; first | exact congrArg (up1 _ _) cpy_s | (rw [up1_at]; exact congrArg (up1 _ _) cpy_s)))
        exact ih_12 (k + 1) (by omega) (by omega) ls _ _ hM hS (lv_sub hl [0, 1] rfl)
  have z_1 : 0 = (nI 0) := rfl
  have hl := lv_chg (lv_sub hl [0, 1] rfl) z_1
  have hM : hR g (putD g M q (up1 (up2 (up2 md 7 19 0) 7 16 0) 1 (cpy 0 (md 0) (md 1)))) _ := hR.eq hM (congrArg (putD g M q) (show (up2 (up2 md 7 19 0) 7 16 0) = (up1 (up2 (up2 md 7 19 0) 7 16 0) 1 (cpy 0 (md 0) (md 1))) from by rw [cpy_0]; exact (up1_self (fl := (up2 (up2 md 7 19 0) 7 16 0)) (k := 1)).symm))
  exact lp_12 (81 + 1) 0 (by omega) (by omega) ls _ _ hM hS (lv_sub hl [0, 1] rfl)
set_option maxHeartbeats 4000000 in
set_option maxRecDepth 100000 in
theorem c_X6_comesBack (l : Launch) (hlf : l.stackTraces = false) (g : GC) (M : HM) (q : Nat) (md : FL) (hW : MdAt g M q md) : KM g l yX6_comesBack cX6_comesBack 2 none 1 0 0 [.ref q] M (.inl (none, (putD g M q (up1 md 0 (md 1))))) := by
  refine k_meth hlf (by decide) (Nat.le_of_ble_eq_true rfl) fun p e s m below meth c ls hc hr hnx hM hS hl => ?_
  have hc : Cx g p l s m [.ref q].toArray meth c cX6_comesBack 2 RX6 := hc
  have hx := hc.1
  have hb := hc.2.1
  have hl : lv_has ls 2 [(0, .ref q)] := hl
  refine lv_iconst (v := 0) hx hb dX6_comesBack_0 (by decide) ?_
  refine lv_istore_n (lv' := [(1, .int 0), (0, .ref q)]) hx hb dX6_comesBack_1 rfl hl (by decide) rfl (fun ls hl => ?_)
  have lp_2 : ∀ (D k : Nat), 81 - k < D → k ≤ 81 → ∀ (ls : Array Slot) (H : Heap) (locs : List Loc), hR g (putD g M q (up1 md 0 (cpy k (md 1) (md 0)))) H → va_S (gA g) s.heap H locs → lv_has ls 2 [(1, .int (nI k)), (0, .ref q)] → W p l e (rmOf 1 0 0) s m [.ref q].toArray below meth c H locs 0 0 (vx_MQ below (KQ g (.inl (none, (putD g M q (up1 md 0 (md 1)))))) (KX g (.inl (none, (putD g M q (up1 md 0 (md 1)))))) [.ref q].toArray s 0 0 (gA g)) (F0 m 2 ls []) := by
    intro D
    induction D with
    | zero => intro k hD; exact absurd hD (Nat.not_lt_zero _)
    | succ D ih_2 =>
      intro k hD hk ls H locs hM hS hl
      have hW := MdAt.put (g := g) (M := M) (m := q) (md := (up1 md 0 (cpy k (md 1) (md 0))))
      refine lv_iload_n hx hb dX6_comesBack_2 rfl (lv_at hl 0 rfl) ?_
      refine lv_bipush (v := 81) hx hb dX6_comesBack_3 (by decide) ?_
      refine lv_icmp_ge (tgt := 26) hx hb dX6_comesBack_5 (by decide) (fun c_5 => ?_) (fun c_5 => ?_)
      · skip
        have c_5 := (k_leL (b := 81) rfl (by decide) (by omega)).mp c_5
        have hM : hR g (putD g M q (up1 md 0 (md 1))) _ := hR.extD hM (fun z hz i hi => by
          by_cases hj : z = 0
          · subst hj
            rw [up1_at, up1_at]
            have hi : i < 81 := hi
            exact if_pos (by omega)
          · rw [up1_ne hj, up1_ne hj]) rfl
        have hW := MdAt.put (g := g) (M := M) (m := q) (md := (up1 md 0 (md 1)))
        exact k_vret hc hr dX6_comesBack_26 hM hS (Nat.le_of_ble_eq_true rfl) (Nat.le_of_ble_eq_true rfl) (by rfl)
      · skip
        have c_5 : ¬ 81 ≤ k := fun h => c_5 ((k_leL (b := 81) rfl (by decide) (by omega)).mpr h)
        refine lv_aload_n hx hb dX6_comesBack_8 rfl (lv_at hl 1 rfl) ?_
        refine gt_X6_9 hc dX6_comesBack_9 hM hW.o rfl ?_
        refine lv_iload_n hx hb dX6_comesBack_12 rfl (lv_at hl 0 rfl) ?_
        refine lv_aload_n hx hb dX6_comesBack_13 rfl (lv_at hl 1 rfl) ?_
        refine gt_X6_13 hc dX6_comesBack_14 hM hW.o rfl ?_
        refine lv_iload_n hx hb dX6_comesBack_17 rfl (lv_at hl 0 rfl) ?_
        refine k_ialdN hc hM (n := 81) (hW.ar 1 (by decide) (by decide) rfl rfl) (X := k) rfl (by omega) (by decide) dX6_comesBack_18 ?_
        refine k_iastN hc hM hS (n := 81) (hW.ar 0 (by decide) (by decide) rfl rfl) (X := k) rfl (by omega) (by decide) dX6_comesBack_19 (fun H locs hM hS => ?_)
        have hM := hR.eq hM (putD_ar hW 0 (by decide) (by decide) rfl rfl)
        have hM := hR.eq hM putD_putD
        have hW := MdAt.put (g := g) (M := M) (m := q) (md := (up1 (up1 md 0 (cpy k (md 1) (md 0))) 0 (upd ((up1 md 0 (cpy k (md 1) (md 0))) 0) k (((up1 md 0 (cpy k (md 1) (md 0))) 1) k))))
        refine lv_iinc (v := (nI (k + 1))) (lv' := [(1, .int (nI (k + 1))), (0, .ref q)]) hx hb dX6_comesBack_20 hl (k := 0) rfl (k_inc1 _) (by decide) rfl (fun ls hl => ?_)
        refine lv_goto (tgt := 2) hx hb dX6_comesBack_23 (by decide) ?_
        have hM : hR g (putD g M q (up1 md 0 (cpy (k + 1) (md 1) (md 0)))) _ := hR.eq hM (congrArg (putD g M q) (by rw [up1_up1]; first | exact congrArg (up1 _ _) cpy_s | (rw [up1_at]; exact congrArg (up1 _ _) cpy_s)))
        exact ih_2 (k + 1) (by omega) (by omega) ls _ _ hM hS (lv_sub hl [0, 1] rfl)
  have z_1 : 0 = (nI 0) := rfl
  have hl := lv_chg (lv_sub hl [0, 1] rfl) z_1
  have hM : hR g (putD g M q (up1 md 0 (cpy 0 (md 1) (md 0)))) _ := hR.eq hM ((putD_same hW).symm.trans (congrArg (putD g M q) (show md = (up1 md 0 (cpy 0 (md 1) (md 0))) from by rw [cpy_0]; exact (up1_self (fl := md) (k := 0)).symm)))
  exact lp_2 (81 + 1) 0 (by omega) (by omega) ls _ _ hM hS (lv_sub hl [0, 1] rfl)
set_option maxHeartbeats 4000000 in
set_option maxRecDepth 100000 in
theorem c_X6_keeps (l : Launch) (hlf : l.stackTraces = false) (g : GC) (M : HM) (q : Nat) (md : FL) (v : Int32) (hW : MdAt g M q md) (hu : unOk md) : KM g l yX6_keeps cX6_keeps 3 (some .int) 1 0 0 [.ref q, .int v] M (.inl (some (.int v), (putD g M q (kpM md)))) := by
  refine k_meth hlf (by decide) (Nat.le_of_ble_eq_true rfl) fun p e s m below meth c ls hc hr hnx hM hS hl => ?_
  have hc : Cx g p l s m [.ref q, .int v].toArray meth c cX6_keeps 3 RX6 := hc
  have hx := hc.1
  have hb := hc.2.1
  have hl : lv_has ls 3 [(0, .ref q), (1, .int v)] := hl
  refine lv_aload_n hx hb dX6_keeps_0 rfl (lv_at hl 0 rfl) ?_
  refine gt_X6_42 hc dX6_keeps_1 hM hW.o rfl ?_
  refine lv_bipush (v := 8) hx hb dX6_keeps_4 (by decide) ?_
  refine lv_icmp_ne (tgt := 49) hx hb dX6_keeps_6 (by decide) (fun c_6 => ?_) (fun c_6 => ?_)
  · skip
    refine lv_iconst (v := 0) hx hb dX6_keeps_49 (by decide) ?_
    refine lv_istore_n (lv' := [(2, .int 0), (0, .ref q), (1, .int v)]) hx hb dX6_keeps_50 rfl hl (by decide) rfl (fun ls hl => ?_)
    have hU : ∃ U, U < 8 ∧ md 7 3 = nI U := unK hu c_6
    obtain ⟨U, hU8, eU⟩ := hU
    have lp_51 : ∀ (D k : Nat), 81 - k < D → k ≤ 81 → ∀ (ls : Array Slot) (H : Heap) (locs : List Loc), hR g (putD g M q (up1 md 2 (blk (81 * U) k (md 1) (md 2)))) H → va_S (gA g) s.heap H locs → lv_has ls 3 [(2, .int (nI k)), (0, .ref q), (1, .int v)] → W p l e (rmOf 1 0 0) s m [.ref q, .int v].toArray below meth c H locs 0 0 (vx_MQ below (KQ g (.inl (some (.int v), (putD g M q (kpM md))))) (KX g (.inl (some (.int v), (putD g M q (kpM md))))) [.ref q, .int v].toArray s 0 0 (gA g)) (F0 m 51 ls []) := by
      intro D
      induction D with
      | zero => intro k hD; exact absurd hD (Nat.not_lt_zero _)
      | succ D ih_51 =>
        intro k hD hk ls H locs hM hS hl
        have hW := MdAt.put (g := g) (M := M) (m := q) (md := (up1 md 2 (blk (81 * U) k (md 1) (md 2))))
        refine lv_iload_n hx hb dX6_keeps_51 rfl (lv_at hl 0 rfl) ?_
        refine lv_bipush (v := 81) hx hb dX6_keeps_52 (by decide) ?_
        refine lv_icmp_ge (tgt := 83) hx hb dX6_keeps_54 (by decide) (fun c_54 => ?_) (fun c_54 => ?_)
        · skip
          have c_54 := (k_leL (b := 81) rfl (by decide) (by omega)).mp c_54
          have hk5 : k = 81 := by omega
          subst hk5
          refine lv_aload_n hx hb dX6_keeps_83 rfl (lv_at hl 1 rfl) ?_
          refine lv_dup hx hb dX6_keeps_84 rfl ?_
          refine gt_X6_42 hc dX6_keeps_85 hM hW.o rfl ?_
          refine lv_iconst (v := 1) hx hb dX6_keeps_88 (by decide) ?_
          refine lv_iadd hx hb dX6_keeps_89 ?_
          refine pt_X6_42 hc dX6_keeps_90 hM hS hW.o rfl rfl (Nat.le_of_ble_eq_true rfl) (fun H locs hM hS => ?_)
          have hM := hR.eq hM (putD_sc hW 3 (v := (((up1 md 2 (blk (81 * U) 81 (md 1) (md 2))) 7 3) + 1)) md_s3)
          have hM := hR.eq hM putD_putD
          have hW := MdAt.put (g := g) (M := M) (m := q) (md := (up2 (up1 md 2 (blk (81 * U) 81 (md 1) (md 2))) 7 3 (((up1 md 2 (blk (81 * U) 81 (md 1) (md 2))) 7 3) + 1)))
          refine lv_iload_n hx hb dX6_keeps_93 rfl (lv_at hl 2 rfl) ?_
          exact k_iret hc hr dX6_keeps_94 hM hS (Nat.le_of_ble_eq_true rfl) (Nat.le_of_ble_eq_true rfl) (by rw [kpM, if_neg c_6, ← (show (md 7 3).toNatClampNeg = U from by rw [eU]; exact nI_clamp (by omega))]; rfl)
        · skip
          have c_54 : ¬ 81 ≤ k := fun h => c_54 ((k_leL (b := 81) rfl (by decide) (by omega)).mpr h)
          refine lv_aload_n hx hb dX6_keeps_57 rfl (lv_at hl 1 rfl) ?_
          refine gt_X6_16 hc dX6_keeps_58 hM hW.o rfl ?_
          refine lv_bipush (v := 81) hx hb dX6_keeps_61 (by decide) ?_
          refine lv_aload_n hx hb dX6_keeps_63 rfl (lv_at hl 1 rfl) ?_
          refine gt_X6_42 hc dX6_keeps_64 hM hW.o rfl ?_
          refine lv_imul hx hb dX6_keeps_67 ?_
          refine lv_iload_n hx hb dX6_keeps_68 rfl (lv_at hl 0 rfl) ?_
          refine lv_iadd hx hb dX6_keeps_69 ?_
          refine lv_aload_n hx hb dX6_keeps_70 rfl (lv_at hl 1 rfl) ?_
          refine gt_X6_13 hc dX6_keeps_71 hM hW.o rfl ?_
          refine lv_iload_n hx hb dX6_keeps_74 rfl (lv_at hl 0 rfl) ?_
          refine k_ialdN hc hM (n := 81) (hW.ar 1 (by decide) (by decide) rfl rfl) (X := k) rfl (by omega) (by decide) dX6_keeps_75 ?_
          refine k_iastN hc hM hS (n := 648) (hW.ar 2 (by decide) (by decide) rfl rfl) (X := (81 * U + k)) (by rw [show (up1 md 2 (blk (81 * U) k (md 1) (md 2))) 7 3 = nI U from eU]; exact nI_81) (by omega) (by decide) dX6_keeps_76 (fun H locs hM hS => ?_)
          have hM := hR.eq hM (putD_ar hW 2 (by decide) (by decide) rfl rfl)
          have hM := hR.eq hM putD_putD
          have hW := MdAt.put (g := g) (M := M) (m := q) (md := (up1 (up1 md 2 (blk (81 * U) k (md 1) (md 2))) 2 (upd ((up1 md 2 (blk (81 * U) k (md 1) (md 2))) 2) (81 * U + k) (((up1 md 2 (blk (81 * U) k (md 1) (md 2))) 1) k))))
          refine lv_iinc (v := (nI (k + 1))) (lv' := [(2, .int (nI (k + 1))), (0, .ref q), (1, .int v)]) hx hb dX6_keeps_77 hl (k := 0) rfl (k_inc1 _) (by decide) rfl (fun ls hl => ?_)
          refine lv_goto (tgt := 51) hx hb dX6_keeps_80 (by decide) ?_
          have hM : hR g (putD g M q (up1 md 2 (blk (81 * U) (k + 1) (md 1) (md 2)))) _ := hR.eq hM (congrArg (putD g M q) (by rw [up1_up1, up1_at]; exact congrArg (up1 _ _) blk_s))
          exact ih_51 (k + 1) (by omega) (by omega) ls _ _ hM hS (lv_sub hl [0, 1, 2] rfl)
    have z_2 : 0 = (nI 0) := rfl
    have hl := lv_chg (lv_sub hl [0, 1, 2] rfl) z_2
    have hM : hR g (putD g M q (up1 md 2 (blk (81 * U) 0 (md 1) (md 2)))) _ := hR.eq hM ((putD_same hW).symm.trans (congrArg (putD g M q) (show md = (up1 md 2 (blk (81 * U) 0 (md 1) (md 2))) from by rw [blk_0]; exact (up1_self (fl := md) (k := 2)).symm)))
    exact lp_51 (81 + 1) 0 (by omega) (by omega) ls _ _ hM hS (lv_sub hl [0, 1, 2] rfl)
  · skip
    refine lv_iconst (v := 0) hx hb dX6_keeps_9 (by decide) ?_
    refine lv_istore_n (lv' := [(2, .int 0), (0, .ref q), (1, .int v)]) hx hb dX6_keeps_10 rfl hl (by decide) rfl (fun ls hl => ?_)
    have lp_11 : ∀ (D k : Nat), 567 - k < D → k ≤ 567 → ∀ (ls : Array Slot) (H : Heap) (locs : List Loc), hR g (putD g M q (up1 md 2 (cpy k (fun i => md 2 (81 + i)) (md 2)))) H → va_S (gA g) s.heap H locs → lv_has ls 3 [(2, .int (nI k)), (0, .ref q), (1, .int v)] → W p l e (rmOf 1 0 0) s m [.ref q, .int v].toArray below meth c H locs 0 0 (vx_MQ below (KQ g (.inl (some (.int v), (putD g M q (kpM md))))) (KX g (.inl (some (.int v), (putD g M q (kpM md))))) [.ref q, .int v].toArray s 0 0 (gA g)) (F0 m 11 ls []) := by
      intro D
      induction D with
      | zero => intro k hD; exact absurd hD (Nat.not_lt_zero _)
      | succ D ih_11 =>
        intro k hD hk ls H locs hM hS hl
        have hW := MdAt.put (g := g) (M := M) (m := q) (md := (up1 md 2 (cpy k (fun i => md 2 (81 + i)) (md 2))))
        refine lv_iload_n hx hb dX6_keeps_11 rfl (lv_at hl 0 rfl) ?_
        refine lv_sipush (v := 567) hx hb dX6_keeps_12 (by decide) ?_
        refine lv_icmp_ge (tgt := 39) hx hb dX6_keeps_15 (by decide) (fun c_15 => ?_) (fun c_15 => ?_)
        · skip
          have c_15 := (k_leL (b := 567) rfl (by decide) (by omega)).mp c_15
          have hk5 : k = 567 := by omega
          subst hk5
          refine lv_aload_n hx hb dX6_keeps_39 rfl (lv_at hl 1 rfl) ?_
          refine lv_dup hx hb dX6_keeps_40 rfl ?_
          refine gt_X6_42 hc dX6_keeps_41 hM hW.o rfl ?_
          refine lv_iconst (v := 1) hx hb dX6_keeps_44 (by decide) ?_
          refine lv_isub hx hb dX6_keeps_45 ?_
          refine pt_X6_42 hc dX6_keeps_46 hM hS hW.o rfl rfl (Nat.le_of_ble_eq_true rfl) (fun H locs hM hS => ?_)
          have hM := hR.eq hM (putD_sc hW 3 (v := (((up1 md 2 (cpy 567 (fun i => md 2 (81 + i)) (md 2))) 7 3) - 1)) md_s3)
          have hM := hR.eq hM putD_putD
          have hW := MdAt.put (g := g) (M := M) (m := q) (md := (up2 (up1 md 2 (cpy 567 (fun i => md 2 (81 + i)) (md 2))) 7 3 (((up1 md 2 (cpy 567 (fun i => md 2 (81 + i)) (md 2))) 7 3) - 1)))
          refine lv_iconst (v := 0) hx hb dX6_keeps_49 (by decide) ?_
          refine lv_istore_n (lv' := [(2, .int 0), (0, .ref q), (1, .int v)]) hx hb dX6_keeps_50 rfl hl (by decide) rfl (fun ls hl => ?_)
          have hU : ∃ U, U < 8 ∧ (up2 (up1 md 2 (cpy 567 (fun i => md 2 (81 + i)) (md 2))) 7 3 (((up1 md 2 (cpy 567 (fun i => md 2 (81 + i)) (md 2))) 7 3) - 1)) 7 3 = nI U := ⟨7, by decide, (show md 7 3 - 1 = nI 7 from by rw [c_6]; rfl)⟩
          obtain ⟨U, hU8, eU⟩ := hU
          have lp_51 : ∀ (D k : Nat), 81 - k < D → k ≤ 81 → ∀ (ls : Array Slot) (H : Heap) (locs : List Loc), hR g (putD g M q (up1 (up2 (up1 md 2 (cpy 567 (fun i => md 2 (81 + i)) (md 2))) 7 3 (((up1 md 2 (cpy 567 (fun i => md 2 (81 + i)) (md 2))) 7 3) - 1)) 2 (blk (81 * U) k ((up2 (up1 md 2 (cpy 567 (fun i => md 2 (81 + i)) (md 2))) 7 3 (((up1 md 2 (cpy 567 (fun i => md 2 (81 + i)) (md 2))) 7 3) - 1)) 1) ((up2 (up1 md 2 (cpy 567 (fun i => md 2 (81 + i)) (md 2))) 7 3 (((up1 md 2 (cpy 567 (fun i => md 2 (81 + i)) (md 2))) 7 3) - 1)) 2)))) H → va_S (gA g) s.heap H locs → lv_has ls 3 [(2, .int (nI k)), (0, .ref q), (1, .int v)] → W p l e (rmOf 1 0 0) s m [.ref q, .int v].toArray below meth c H locs 0 0 (vx_MQ below (KQ g (.inl (some (.int v), (putD g M q (kpM md))))) (KX g (.inl (some (.int v), (putD g M q (kpM md))))) [.ref q, .int v].toArray s 0 0 (gA g)) (F0 m 51 ls []) := by
            intro D
            induction D with
            | zero => intro k hD; exact absurd hD (Nat.not_lt_zero _)
            | succ D ih_51 =>
              intro k hD hk ls H locs hM hS hl
              have hW := MdAt.put (g := g) (M := M) (m := q) (md := (up1 (up2 (up1 md 2 (cpy 567 (fun i => md 2 (81 + i)) (md 2))) 7 3 (((up1 md 2 (cpy 567 (fun i => md 2 (81 + i)) (md 2))) 7 3) - 1)) 2 (blk (81 * U) k ((up2 (up1 md 2 (cpy 567 (fun i => md 2 (81 + i)) (md 2))) 7 3 (((up1 md 2 (cpy 567 (fun i => md 2 (81 + i)) (md 2))) 7 3) - 1)) 1) ((up2 (up1 md 2 (cpy 567 (fun i => md 2 (81 + i)) (md 2))) 7 3 (((up1 md 2 (cpy 567 (fun i => md 2 (81 + i)) (md 2))) 7 3) - 1)) 2))))
              refine lv_iload_n hx hb dX6_keeps_51 rfl (lv_at hl 0 rfl) ?_
              refine lv_bipush (v := 81) hx hb dX6_keeps_52 (by decide) ?_
              refine lv_icmp_ge (tgt := 83) hx hb dX6_keeps_54 (by decide) (fun c_54 => ?_) (fun c_54 => ?_)
              · skip
                have c_54 := (k_leL (b := 81) rfl (by decide) (by omega)).mp c_54
                have hk5 : k = 81 := by omega
                subst hk5
                refine lv_aload_n hx hb dX6_keeps_83 rfl (lv_at hl 1 rfl) ?_
                refine lv_dup hx hb dX6_keeps_84 rfl ?_
                refine gt_X6_42 hc dX6_keeps_85 hM hW.o rfl ?_
                refine lv_iconst (v := 1) hx hb dX6_keeps_88 (by decide) ?_
                refine lv_iadd hx hb dX6_keeps_89 ?_
                refine pt_X6_42 hc dX6_keeps_90 hM hS hW.o rfl rfl (Nat.le_of_ble_eq_true rfl) (fun H locs hM hS => ?_)
                have hM := hR.eq hM (putD_sc hW 3 (v := (((up1 (up2 (up1 md 2 (cpy 567 (fun i => md 2 (81 + i)) (md 2))) 7 3 (((up1 md 2 (cpy 567 (fun i => md 2 (81 + i)) (md 2))) 7 3) - 1)) 2 (blk (81 * U) 81 ((up2 (up1 md 2 (cpy 567 (fun i => md 2 (81 + i)) (md 2))) 7 3 (((up1 md 2 (cpy 567 (fun i => md 2 (81 + i)) (md 2))) 7 3) - 1)) 1) ((up2 (up1 md 2 (cpy 567 (fun i => md 2 (81 + i)) (md 2))) 7 3 (((up1 md 2 (cpy 567 (fun i => md 2 (81 + i)) (md 2))) 7 3) - 1)) 2))) 7 3) + 1)) md_s3)
                have hM := hR.eq hM putD_putD
                have hW := MdAt.put (g := g) (M := M) (m := q) (md := (up2 (up1 (up2 (up1 md 2 (cpy 567 (fun i => md 2 (81 + i)) (md 2))) 7 3 (((up1 md 2 (cpy 567 (fun i => md 2 (81 + i)) (md 2))) 7 3) - 1)) 2 (blk (81 * U) 81 ((up2 (up1 md 2 (cpy 567 (fun i => md 2 (81 + i)) (md 2))) 7 3 (((up1 md 2 (cpy 567 (fun i => md 2 (81 + i)) (md 2))) 7 3) - 1)) 1) ((up2 (up1 md 2 (cpy 567 (fun i => md 2 (81 + i)) (md 2))) 7 3 (((up1 md 2 (cpy 567 (fun i => md 2 (81 + i)) (md 2))) 7 3) - 1)) 2))) 7 3 (((up1 (up2 (up1 md 2 (cpy 567 (fun i => md 2 (81 + i)) (md 2))) 7 3 (((up1 md 2 (cpy 567 (fun i => md 2 (81 + i)) (md 2))) 7 3) - 1)) 2 (blk (81 * U) 81 ((up2 (up1 md 2 (cpy 567 (fun i => md 2 (81 + i)) (md 2))) 7 3 (((up1 md 2 (cpy 567 (fun i => md 2 (81 + i)) (md 2))) 7 3) - 1)) 1) ((up2 (up1 md 2 (cpy 567 (fun i => md 2 (81 + i)) (md 2))) 7 3 (((up1 md 2 (cpy 567 (fun i => md 2 (81 + i)) (md 2))) 7 3) - 1)) 2))) 7 3) + 1)))
                refine lv_iload_n hx hb dX6_keeps_93 rfl (lv_at hl 2 rfl) ?_
                exact k_iret hc hr dX6_keeps_94 hM hS (Nat.le_of_ble_eq_true rfl) (Nat.le_of_ble_eq_true rfl) (by rw [kpM, if_pos c_6, ← (show ((up2 (up1 md 2 (cpy 567 (fun i => md 2 (81 + i)) (md 2))) 7 3 (((up1 md 2 (cpy 567 (fun i => md 2 (81 + i)) (md 2))) 7 3) - 1)) 7 3).toNatClampNeg = U from by rw [eU]; exact nI_clamp (by omega))]; rfl)
              · skip
                have c_54 : ¬ 81 ≤ k := fun h => c_54 ((k_leL (b := 81) rfl (by decide) (by omega)).mpr h)
                refine lv_aload_n hx hb dX6_keeps_57 rfl (lv_at hl 1 rfl) ?_
                refine gt_X6_16 hc dX6_keeps_58 hM hW.o rfl ?_
                refine lv_bipush (v := 81) hx hb dX6_keeps_61 (by decide) ?_
                refine lv_aload_n hx hb dX6_keeps_63 rfl (lv_at hl 1 rfl) ?_
                refine gt_X6_42 hc dX6_keeps_64 hM hW.o rfl ?_
                refine lv_imul hx hb dX6_keeps_67 ?_
                refine lv_iload_n hx hb dX6_keeps_68 rfl (lv_at hl 0 rfl) ?_
                refine lv_iadd hx hb dX6_keeps_69 ?_
                refine lv_aload_n hx hb dX6_keeps_70 rfl (lv_at hl 1 rfl) ?_
                refine gt_X6_13 hc dX6_keeps_71 hM hW.o rfl ?_
                refine lv_iload_n hx hb dX6_keeps_74 rfl (lv_at hl 0 rfl) ?_
                refine k_ialdN hc hM (n := 81) (hW.ar 1 (by decide) (by decide) rfl rfl) (X := k) rfl (by omega) (by decide) dX6_keeps_75 ?_
                refine k_iastN hc hM hS (n := 648) (hW.ar 2 (by decide) (by decide) rfl rfl) (X := (81 * U + k)) (by rw [show (up1 (up2 (up1 md 2 (cpy 567 (fun i => md 2 (81 + i)) (md 2))) 7 3 (((up1 md 2 (cpy 567 (fun i => md 2 (81 + i)) (md 2))) 7 3) - 1)) 2 (blk (81 * U) k ((up2 (up1 md 2 (cpy 567 (fun i => md 2 (81 + i)) (md 2))) 7 3 (((up1 md 2 (cpy 567 (fun i => md 2 (81 + i)) (md 2))) 7 3) - 1)) 1) ((up2 (up1 md 2 (cpy 567 (fun i => md 2 (81 + i)) (md 2))) 7 3 (((up1 md 2 (cpy 567 (fun i => md 2 (81 + i)) (md 2))) 7 3) - 1)) 2))) 7 3 = nI U from eU]; exact nI_81) (by omega) (by decide) dX6_keeps_76 (fun H locs hM hS => ?_)
                have hM := hR.eq hM (putD_ar hW 2 (by decide) (by decide) rfl rfl)
                have hM := hR.eq hM putD_putD
                have hW := MdAt.put (g := g) (M := M) (m := q) (md := (up1 (up1 (up2 (up1 md 2 (cpy 567 (fun i => md 2 (81 + i)) (md 2))) 7 3 (((up1 md 2 (cpy 567 (fun i => md 2 (81 + i)) (md 2))) 7 3) - 1)) 2 (blk (81 * U) k ((up2 (up1 md 2 (cpy 567 (fun i => md 2 (81 + i)) (md 2))) 7 3 (((up1 md 2 (cpy 567 (fun i => md 2 (81 + i)) (md 2))) 7 3) - 1)) 1) ((up2 (up1 md 2 (cpy 567 (fun i => md 2 (81 + i)) (md 2))) 7 3 (((up1 md 2 (cpy 567 (fun i => md 2 (81 + i)) (md 2))) 7 3) - 1)) 2))) 2 (upd ((up1 (up2 (up1 md 2 (cpy 567 (fun i => md 2 (81 + i)) (md 2))) 7 3 (((up1 md 2 (cpy 567 (fun i => md 2 (81 + i)) (md 2))) 7 3) - 1)) 2 (blk (81 * U) k ((up2 (up1 md 2 (cpy 567 (fun i => md 2 (81 + i)) (md 2))) 7 3 (((up1 md 2 (cpy 567 (fun i => md 2 (81 + i)) (md 2))) 7 3) - 1)) 1) ((up2 (up1 md 2 (cpy 567 (fun i => md 2 (81 + i)) (md 2))) 7 3 (((up1 md 2 (cpy 567 (fun i => md 2 (81 + i)) (md 2))) 7 3) - 1)) 2))) 2) (81 * U + k) (((up1 (up2 (up1 md 2 (cpy 567 (fun i => md 2 (81 + i)) (md 2))) 7 3 (((up1 md 2 (cpy 567 (fun i => md 2 (81 + i)) (md 2))) 7 3) - 1)) 2 (blk (81 * U) k ((up2 (up1 md 2 (cpy 567 (fun i => md 2 (81 + i)) (md 2))) 7 3 (((up1 md 2 (cpy 567 (fun i => md 2 (81 + i)) (md 2))) 7 3) - 1)) 1) ((up2 (up1 md 2 (cpy 567 (fun i => md 2 (81 + i)) (md 2))) 7 3 (((up1 md 2 (cpy 567 (fun i => md 2 (81 + i)) (md 2))) 7 3) - 1)) 2))) 1) k))))
                refine lv_iinc (v := (nI (k + 1))) (lv' := [(2, .int (nI (k + 1))), (0, .ref q), (1, .int v)]) hx hb dX6_keeps_77 hl (k := 0) rfl (k_inc1 _) (by decide) rfl (fun ls hl => ?_)
                refine lv_goto (tgt := 51) hx hb dX6_keeps_80 (by decide) ?_
                have hM : hR g (putD g M q (up1 (up2 (up1 md 2 (cpy 567 (fun i => md 2 (81 + i)) (md 2))) 7 3 (((up1 md 2 (cpy 567 (fun i => md 2 (81 + i)) (md 2))) 7 3) - 1)) 2 (blk (81 * U) (k + 1) ((up2 (up1 md 2 (cpy 567 (fun i => md 2 (81 + i)) (md 2))) 7 3 (((up1 md 2 (cpy 567 (fun i => md 2 (81 + i)) (md 2))) 7 3) - 1)) 1) ((up2 (up1 md 2 (cpy 567 (fun i => md 2 (81 + i)) (md 2))) 7 3 (((up1 md 2 (cpy 567 (fun i => md 2 (81 + i)) (md 2))) 7 3) - 1)) 2)))) _ := hR.eq hM (congrArg (putD g M q) (by rw [up1_up1, up1_at]; exact congrArg (up1 _ _) blk_s))
                exact ih_51 (k + 1) (by omega) (by omega) ls _ _ hM hS (lv_sub hl [0, 1, 2] rfl)
          have z_2 : 0 = (nI 0) := rfl
          have hl := lv_chg (lv_sub hl [0, 1, 2] rfl) z_2
          have hM : hR g (putD g M q (up1 (up2 (up1 md 2 (cpy 567 (fun i => md 2 (81 + i)) (md 2))) 7 3 (((up1 md 2 (cpy 567 (fun i => md 2 (81 + i)) (md 2))) 7 3) - 1)) 2 (blk (81 * U) 0 ((up2 (up1 md 2 (cpy 567 (fun i => md 2 (81 + i)) (md 2))) 7 3 (((up1 md 2 (cpy 567 (fun i => md 2 (81 + i)) (md 2))) 7 3) - 1)) 1) ((up2 (up1 md 2 (cpy 567 (fun i => md 2 (81 + i)) (md 2))) 7 3 (((up1 md 2 (cpy 567 (fun i => md 2 (81 + i)) (md 2))) 7 3) - 1)) 2)))) _ := hR.eq hM (congrArg (putD g M q) (show (up2 (up1 md 2 (cpy 567 (fun i => md 2 (81 + i)) (md 2))) 7 3 (((up1 md 2 (cpy 567 (fun i => md 2 (81 + i)) (md 2))) 7 3) - 1)) = (up1 (up2 (up1 md 2 (cpy 567 (fun i => md 2 (81 + i)) (md 2))) 7 3 (((up1 md 2 (cpy 567 (fun i => md 2 (81 + i)) (md 2))) 7 3) - 1)) 2 (blk (81 * U) 0 ((up2 (up1 md 2 (cpy 567 (fun i => md 2 (81 + i)) (md 2))) 7 3 (((up1 md 2 (cpy 567 (fun i => md 2 (81 + i)) (md 2))) 7 3) - 1)) 1) ((up2 (up1 md 2 (cpy 567 (fun i => md 2 (81 + i)) (md 2))) 7 3 (((up1 md 2 (cpy 567 (fun i => md 2 (81 + i)) (md 2))) 7 3) - 1)) 2))) from by rw [blk_0]; exact (up1_self (fl := (up2 (up1 md 2 (cpy 567 (fun i => md 2 (81 + i)) (md 2))) 7 3 (((up1 md 2 (cpy 567 (fun i => md 2 (81 + i)) (md 2))) 7 3) - 1))) (k := 2)).symm))
          exact lp_51 (81 + 1) 0 (by omega) (by omega) ls _ _ hM hS (lv_sub hl [0, 1, 2] rfl)
        · skip
          have c_15 : ¬ 567 ≤ k := fun h => c_15 ((k_leL (b := 567) rfl (by decide) (by omega)).mpr h)
          refine lv_aload_n hx hb dX6_keeps_18 rfl (lv_at hl 1 rfl) ?_
          refine gt_X6_16 hc dX6_keeps_19 hM hW.o rfl ?_
          refine lv_iload_n hx hb dX6_keeps_22 rfl (lv_at hl 0 rfl) ?_
          refine lv_aload_n hx hb dX6_keeps_23 rfl (lv_at hl 1 rfl) ?_
          refine gt_X6_16 hc dX6_keeps_24 hM hW.o rfl ?_
          refine lv_bipush (v := 81) hx hb dX6_keeps_27 (by decide) ?_
          refine lv_iload_n hx hb dX6_keeps_29 rfl (lv_at hl 0 rfl) ?_
          refine lv_iadd hx hb dX6_keeps_30 ?_
          refine k_ialdN hc hM (n := 648) (hW.ar 2 (by decide) (by decide) rfl rfl) (X := (81 + k)) (nI_add 81 k) (by omega) (by decide) dX6_keeps_31 ?_
          refine k_iastN hc hM hS (n := 648) (hW.ar 2 (by decide) (by decide) rfl rfl) (X := k) rfl (by omega) (by decide) dX6_keeps_32 (fun H locs hM hS => ?_)
          have hM := hR.eq hM (putD_ar hW 2 (by decide) (by decide) rfl rfl)
          have hM := hR.eq hM putD_putD
          have hW := MdAt.put (g := g) (M := M) (m := q) (md := (up1 (up1 md 2 (cpy k (fun i => md 2 (81 + i)) (md 2))) 2 (upd ((up1 md 2 (cpy k (fun i => md 2 (81 + i)) (md 2))) 2) k (((up1 md 2 (cpy k (fun i => md 2 (81 + i)) (md 2))) 2) (81 + k)))))
          refine lv_iinc (v := (nI (k + 1))) (lv' := [(2, .int (nI (k + 1))), (0, .ref q), (1, .int v)]) hx hb dX6_keeps_33 hl (k := 0) rfl (k_inc1 _) (by decide) rfl (fun ls hl => ?_)
          refine lv_goto (tgt := 11) hx hb dX6_keeps_36 (by decide) ?_
          have hM : hR g (putD g M q (up1 md 2 (cpy (k + 1) (fun i => md 2 (81 + i)) (md 2)))) _ := hR.eq hM (congrArg (putD g M q) (by rw [up1_up1, up1_at]; refine congrArg (up1 md 2) (Eq.trans ?_ cpy_s); rw [show cpy k (fun i => md 2 (81 + i)) (md 2) (81 + k) = md 2 (81 + k) from if_neg (by omega)]))
          exact ih_11 (k + 1) (by omega) (by omega) ls _ _ hM hS (lv_sub hl [0, 1, 2] rfl)
    have z_2 : 0 = (nI 0) := rfl
    have hl := lv_chg (lv_sub hl [0, 1, 2] rfl) z_2
    have hM : hR g (putD g M q (up1 md 2 (cpy 0 (fun i => md 2 (81 + i)) (md 2)))) _ := hR.eq hM ((putD_same hW).symm.trans (congrArg (putD g M q) (show md = (up1 md 2 (cpy 0 (fun i => md 2 (81 + i)) (md 2))) from by rw [cpy_0]; exact (up1_self (fl := md) (k := 2)).symm)))
    exact lp_11 (567 + 1) 0 (by omega) (by omega) ls _ _ hM hS (lv_sub hl [0, 1, 2] rfl)
