/-! the reference, a part -/
set_option maxHeartbeats 4000000 in
set_option maxRecDepth 100000 in
theorem c_X6_wn1 (l : Launch) (hlf : l.stackTraces = false) (g : GC) (M : HM) (q : Nat) (md : FL) (v : Int32) (hW : MdAt g M q md) (h9 : v ≤ 9) (hlk : lOk md 1) : KM g l yX6_writesNumber cX6_writesNumber 2 none 1 0 0 [.ref q, .int v] M (.inl (none, (putD g M q (lpM md (48 + (v - v / 10 * 10)))))) := by
  refine k_meth hlf (by decide) (Nat.le_of_ble_eq_true rfl) fun p e s m below meth c ls hc hr hnx hM hS hl => ?_
  have hc : Cx g p l s m [.ref q, .int v].toArray meth c cX6_writesNumber 2 RX6 := hc
  have hx := hc.1
  have hb := hc.2.1
  have hl : lv_has ls 2 [(0, .ref q), (1, .int v)] := hl
  refine lv_iload_n hx hb dX6_writesNumber_0 rfl (lv_at hl 1 rfl) ?_
  refine lv_bipush (v := 9) hx hb dX6_writesNumber_1 (by decide) ?_
  refine lv_icmp_le (tgt := 14) hx hb dX6_writesNumber_3 (by decide) (fun c_3 => ?_) (fun c_3 => ?_)
  · skip
    refine lv_aload_n hx hb dX6_writesNumber_14 rfl (lv_at hl 0 rfl) ?_
    refine gt_X6_22 hc dX6_writesNumber_15 hM hW.o rfl ?_
    refine lv_aload_n hx hb dX6_writesNumber_18 rfl (lv_at hl 0 rfl) ?_
    refine lv_dup hx hb dX6_writesNumber_19 rfl ?_
    refine gt_X6_194 hc dX6_writesNumber_20 hM hW.o (v := .int (md 7 7)) rfl ?_
    refine lv_dup_x1 hx hb dX6_writesNumber_23 rfl rfl ?_
    refine lv_iconst (v := 1) hx hb dX6_writesNumber_24 (by decide) ?_
    refine lv_iadd hx hb dX6_writesNumber_25 ?_
    refine pt_X6_194 hc dX6_writesNumber_26 hM hS hW.o rfl rfl (Nat.le_of_ble_eq_true rfl) (fun H locs hM hS => ?_)
    have hM := hR.eq hM (putD_sc hW 7 (v := ((md 7 7) + 1)) md_s7)
    have hW := MdAt.put (g := g) (M := M) (m := q) (md := (up2 md 7 7 ((md 7 7) + 1)))
    refine lv_bipush (v := 48) hx hb dX6_writesNumber_29 (by decide) ?_
    refine lv_iload_n hx hb dX6_writesNumber_31 rfl (lv_at hl 1 rfl) ?_
    refine lv_bipush (v := 10) hx hb dX6_writesNumber_32 (by decide) ?_
    refine lv_irem hx hb dX6_writesNumber_34 (by decide) ?_
    refine lv_iadd hx hb dX6_writesNumber_35 ?_
    refine k_iast hc hM hS (show (putD g M q (up2 md 7 7 ((md 7 7) + 1))) (q + 5) = some (.inl (gI g, 100, .inl (md 4))) from (hW.ar 4 (by decide) (by decide) rfl rfl)) (lIn (n := 0) hlk) dX6_writesNumber_36 (fun H locs hM hS => ?_)
    have hM := hR.eq hM (putD_ar hW 4 (by decide) (by decide) rfl rfl)
    have hM := hR.eq hM putD_putD
    have hW := MdAt.put (g := g) (M := M) (m := q) (md := (up1 (up2 md 7 7 ((md 7 7) + 1)) 4 (upd (md 4) ((md 7 7).toNatClampNeg) (48 + (v - v / 10 * 10)))))
    exact k_vret hc hr dX6_writesNumber_37 hM hS (Nat.le_of_ble_eq_true rfl) (Nat.le_of_ble_eq_true rfl) (by rfl)
  · skip
    exact absurd h9 c_3
set_option maxHeartbeats 4000000 in
set_option maxRecDepth 100000 in
theorem c_X6_writesNumber (l : Launch) (hlf : l.stackTraces = false) (g : GC) (M : HM) (q : Nat) (md : FL) (v : Int32) (hW : MdAt g M q md) (h9 : v / 10 ≤ 9) (hl9 : lOk md 2) : KM g l yX6_writesNumber cX6_writesNumber 2 none 4 0 0 [.ref q, .int v] M (.inl (none, (putD g M q (lnM md v)))) := by
  refine k_meth hlf (by decide) (Nat.le_of_ble_eq_true rfl) fun p e s m below meth c ls hc hr hnx hM hS hl => ?_
  have hc : Cx g p l s m [.ref q, .int v].toArray meth c cX6_writesNumber 2 RX6 := hc
  have hx := hc.1
  have hb := hc.2.1
  have hl : lv_has ls 2 [(0, .ref q), (1, .int v)] := hl
  refine lv_iload_n hx hb dX6_writesNumber_0 rfl (lv_at hl 1 rfl) ?_
  refine lv_bipush (v := 9) hx hb dX6_writesNumber_1 (by decide) ?_
  refine lv_icmp_le (tgt := 14) hx hb dX6_writesNumber_3 (by decide) (fun c_3 => ?_) (fun c_3 => ?_)
  · skip
    refine lv_aload_n hx hb dX6_writesNumber_14 rfl (lv_at hl 0 rfl) ?_
    refine gt_X6_22 hc dX6_writesNumber_15 hM hW.o rfl ?_
    refine lv_aload_n hx hb dX6_writesNumber_18 rfl (lv_at hl 0 rfl) ?_
    refine lv_dup hx hb dX6_writesNumber_19 rfl ?_
    refine gt_X6_194 hc dX6_writesNumber_20 hM hW.o (v := .int (md 7 7)) rfl ?_
    refine lv_dup_x1 hx hb dX6_writesNumber_23 rfl rfl ?_
    refine lv_iconst (v := 1) hx hb dX6_writesNumber_24 (by decide) ?_
    refine lv_iadd hx hb dX6_writesNumber_25 ?_
    refine pt_X6_194 hc dX6_writesNumber_26 hM hS hW.o rfl rfl (Nat.le_of_ble_eq_true rfl) (fun H locs hM hS => ?_)
    have hM := hR.eq hM (putD_sc hW 7 (v := ((md 7 7) + 1)) md_s7)
    have hW := MdAt.put (g := g) (M := M) (m := q) (md := (up2 md 7 7 ((md 7 7) + 1)))
    refine lv_bipush (v := 48) hx hb dX6_writesNumber_29 (by decide) ?_
    refine lv_iload_n hx hb dX6_writesNumber_31 rfl (lv_at hl 1 rfl) ?_
    refine lv_bipush (v := 10) hx hb dX6_writesNumber_32 (by decide) ?_
    refine lv_irem hx hb dX6_writesNumber_34 (by decide) ?_
    refine lv_iadd hx hb dX6_writesNumber_35 ?_
    refine k_iast hc hM hS (show (putD g M q (up2 md 7 7 ((md 7 7) + 1))) (q + 5) = some (.inl (gI g, 100, .inl (md 4))) from (hW.ar 4 (by decide) (by decide) rfl rfl)) (lIn (n := 0) (lOk_le hl9 (by omega))) dX6_writesNumber_36 (fun H locs hM hS => ?_)
    have hM := hR.eq hM (putD_ar hW 4 (by decide) (by decide) rfl rfl)
    have hM := hR.eq hM putD_putD
    have hW := MdAt.put (g := g) (M := M) (m := q) (md := (up1 (up2 md 7 7 ((md 7 7) + 1)) 4 (upd (md 4) ((md 7 7).toNatClampNeg) (48 + (v - v / 10 * 10)))))
    exact k_vret hc hr dX6_writesNumber_37 hM hS (Nat.le_of_ble_eq_true rfl) (Nat.le_of_ble_eq_true rfl) (by rw [lnM, if_pos c_3]; rfl)
  · skip
    refine lv_aload_n hx hb dX6_writesNumber_6 rfl (lv_at hl 0 rfl) ?_
    refine lv_iload_n hx hb dX6_writesNumber_7 rfl (lv_at hl 1 rfl) ?_
    refine lv_bipush (v := 10) hx hb dX6_writesNumber_8 (by decide) ?_
    refine lv_idiv hx hb dX6_writesNumber_10 (by decide) ?_
    refine k_V0 hc [.int (v / 10)] cw_X6_190 rfl dX6_writesNumber_11 (c_X6_wn1 l hlf g _ q md (v / 10) hW h9 (lOk_le hl9 (by omega))) hW.o hM hS hl.1 rfl rfl ⟨Nat.le_of_ble_eq_true rfl, Nat.le_of_ble_eq_true rfl⟩ ⟨Nat.le_of_ble_eq_true rfl, Nat.le_of_ble_eq_true rfl⟩ (Nat.le_of_ble_eq_true rfl) (fun H locs hM hS => ?_)
    have hW := MdAt.put (g := g) (M := M) (m := q) (md := (lpM md (48 + ((v / 10) - (v / 10) / 10 * 10))))
    refine lv_aload_n hx hb dX6_writesNumber_14 rfl (lv_at hl 0 rfl) ?_
    refine gt_X6_22 hc dX6_writesNumber_15 hM hW.o rfl ?_
    refine lv_aload_n hx hb dX6_writesNumber_18 rfl (lv_at hl 0 rfl) ?_
    refine lv_dup hx hb dX6_writesNumber_19 rfl ?_
    refine gt_X6_194 hc dX6_writesNumber_20 hM hW.o (v := .int ((lpM md (48 + ((v / 10) - (v / 10) / 10 * 10))) 7 7)) rfl ?_
    refine lv_dup_x1 hx hb dX6_writesNumber_23 rfl rfl ?_
    refine lv_iconst (v := 1) hx hb dX6_writesNumber_24 (by decide) ?_
    refine lv_iadd hx hb dX6_writesNumber_25 ?_
    refine pt_X6_194 hc dX6_writesNumber_26 hM hS hW.o rfl rfl (Nat.le_of_ble_eq_true rfl) (fun H locs hM hS => ?_)
    have hM := hR.eq hM (putD_sc hW 7 (v := (((lpM md (48 + ((v / 10) - (v / 10) / 10 * 10))) 7 7) + 1)) md_s7)
    have hM := hR.eq hM putD_putD
    have hW := MdAt.put (g := g) (M := M) (m := q) (md := (up2 (lpM md (48 + ((v / 10) - (v / 10) / 10 * 10))) 7 7 (((lpM md (48 + ((v / 10) - (v / 10) / 10 * 10))) 7 7) + 1)))
    refine lv_bipush (v := 48) hx hb dX6_writesNumber_29 (by decide) ?_
    refine lv_iload_n hx hb dX6_writesNumber_31 rfl (lv_at hl 1 rfl) ?_
    refine lv_bipush (v := 10) hx hb dX6_writesNumber_32 (by decide) ?_
    refine lv_irem hx hb dX6_writesNumber_34 (by decide) ?_
    refine lv_iadd hx hb dX6_writesNumber_35 ?_
    refine k_iast hc hM hS (show (putD g M q (up2 (lpM md (48 + ((v / 10) - (v / 10) / 10 * 10))) 7 7 (((lpM md (48 + ((v / 10) - (v / 10) / 10 * 10))) 7 7) + 1))) (q + 5) = some (.inl (gI g, 100, .inl ((lpM md (48 + ((v / 10) - (v / 10) / 10 * 10))) 4))) from (hW.ar 4 (by decide) (by decide) rfl rfl)) (lIn (n := 0) (lOk_s hl9)) dX6_writesNumber_36 (fun H locs hM hS => ?_)
    have hM := hR.eq hM (putD_ar hW 4 (by decide) (by decide) rfl rfl)
    have hM := hR.eq hM putD_putD
    have hW := MdAt.put (g := g) (M := M) (m := q) (md := (up1 (up2 (lpM md (48 + ((v / 10) - (v / 10) / 10 * 10))) 7 7 (((lpM md (48 + ((v / 10) - (v / 10) / 10 * 10))) 7 7) + 1)) 4 (upd ((lpM md (48 + ((v / 10) - (v / 10) / 10 * 10))) 4) (((lpM md (48 + ((v / 10) - (v / 10) / 10 * 10))) 7 7).toNatClampNeg) (48 + (v - v / 10 * 10)))))
    exact k_vret hc hr dX6_writesNumber_37 hM hS (Nat.le_of_ble_eq_true rfl) (Nat.le_of_ble_eq_true rfl) (by rw [lnM, if_neg c_3]; rfl)
set_option maxHeartbeats 4000000 in
set_option maxRecDepth 100000 in
theorem c_X6_line (l : Launch) (hlf : l.stackTraces = false) (g : GC) (M : HM) (q : Nat) (md : FL) (v : Int32) (hW : MdAt g M q md) (hI : mOk (md 0)) (hV : inB v 0 (md 0 4 - 1) → vOk (md 0) v) : KM g l yX6_line cX6_line 5 (some .int) 5 0 0 [.ref q, .int v] M (.inl (some (.int (if inB v 0 (md 0 4 - 1) then lmE md v 7 7 else 0)), (putD g M q (if inB v 0 (md 0 4 - 1) then lmE md v else up2 md 7 19 1)))) := by
  refine k_meth hlf (by decide) (Nat.le_of_ble_eq_true rfl) fun p e s m below meth c ls hc hr hnx hM hS hl => ?_
  have hc : Cx g p l s m [.ref q, .int v].toArray meth c cX6_line 5 RX6 := hc
  have hx := hc.1
  have hb := hc.2.1
  have hl : lv_has ls 5 [(0, .ref q), (1, .int v)] := hl
  refine lv_aload_n hx hb dX6_line_0 rfl (lv_at hl 0 rfl) ?_
  refine lv_iconst (v := 0) hx hb dX6_line_1 (by decide) ?_
  refine pt_X6_36 hc dX6_line_2 hM hS hW.o rfl rfl (Nat.le_of_ble_eq_true rfl) (fun H locs hM hS => ?_)
  have hM := hR.eq hM (putD_sc hW 19 (v := 0) md_s19)
  have hW := MdAt.put (g := g) (M := M) (m := q) (md := (up2 md 7 19 0))
  refine lv_aload_n hx hb dX6_line_5 rfl (lv_at hl 0 rfl) ?_
  refine lv_iload_n hx hb dX6_line_6 rfl (lv_at hl 1 rfl) ?_
  refine k_V1 (v := .int (bI (inB v 0 ((md 0) 4 - 1)))) hc [.int v] cw_X6_110 rfl dX6_line_7 (c_X6_isSheet l hlf g _ q (up2 md 7 19 0) v hW) hW.o hM hS hl.1 rfl rfl ⟨Nat.le_of_ble_eq_true rfl, Nat.le_of_ble_eq_true rfl⟩ ⟨Nat.le_of_ble_eq_true rfl, Nat.le_of_ble_eq_true rfl⟩ (Nat.le_of_ble_eq_true rfl) (fun H locs hM hS => ?_)
  refine lv_if_ne (tgt := 19) hx hb dX6_line_10 (by decide) (fun c_10 => ?_) (fun c_10 => ?_)
  · skip
    have c_10 := bI_ne.mp c_10
    have ok_10 := isH_ok (f := md 0) hI c_10
    have hV := hV c_10
    refine lv_aload_n hx hb dX6_line_19 rfl (lv_at hl 0 rfl) ?_
    refine lv_iconst (v := 0) hx hb dX6_line_20 (by decide) ?_
    refine pt_X6_194 hc dX6_line_21 hM hS hW.o rfl rfl (Nat.le_of_ble_eq_true rfl) (fun H locs hM hS => ?_)
    have hM := hR.eq hM (putD_sc hW 7 (v := 0) md_s7)
    have hM := hR.eq hM putD_putD
    have hW := MdAt.put (g := g) (M := M) (m := q) (md := (up2 (up2 md 7 19 0) 7 7 0))
    refine lv_iconst (v := 0) hx hb dX6_line_24 (by decide) ?_
    refine lv_istore_n (lv' := [(2, .int 0), (0, .ref q), (1, .int v)]) hx hb dX6_line_25 rfl hl (by decide) rfl (fun ls hl => ?_)
    have lp_26 : ∀ (D k : Nat) (u : FL), ((md 0 2).toNatClampNeg) - k < D → k ≤ (md 0 2).toNatClampNeg → (u 0 = md 0) → (itr (lmS (md 0) v) (up2 (up2 md 7 19 0) 7 7 0) k = u) → ∀ (ls : Array Slot) (H : Heap) (locs : List Loc), hR g (putD g M q u) H → va_S (gA g) s.heap H locs → lv_has ls 5 [(2, .int (nI k)), (0, .ref q), (1, .int v)] → W p l e (rmOf 5 0 0) s m [.ref q, .int v].toArray below meth c H locs 0 0 (vx_MQ below (KQ g (.inl (some (.int (if inB v 0 (md 0 4 - 1) then lmE md v 7 7 else 0)), (putD g M q (if inB v 0 (md 0 4 - 1) then lmE md v else up2 md 7 19 1))))) (KX g (.inl (some (.int (if inB v 0 (md 0 4 - 1) then lmE md v 7 7 else 0)), (putD g M q (if inB v 0 (md 0 4 - 1) then lmE md v else up2 md 7 19 1))))) [.ref q, .int v].toArray s 0 0 (gA g)) (F0 m 26 ls []) := by
      intro D
      induction D with
      | zero => intro k u hD; exact absurd hD (Nat.not_lt_zero _)
      | succ D ih_26 =>
        intro k u hD hk h0 hq ls H locs hM hS hl
        have hW := MdAt.put (g := g) (M := M) (m := q) (md := u)
        refine lv_iload_n hx hb dX6_line_26 rfl (lv_at hl 0 rfl) ?_
        refine lv_aload_n hx hb dX6_line_27 rfl (lv_at hl 1 rfl) ?_
        refine gt_X6_9 hc dX6_line_28 hM hW.o rfl ?_
        refine lv_iconst (v := 2) hx hb dX6_line_31 (by decide) ?_
        refine k_ialdN hc hM (n := 81) (hW.ar 0 (by decide) (by decide) rfl rfl) (X := 2) rfl (by omega) (by decide) dX6_line_32 ?_
        refine lv_icmp_ge (tgt := 167) hx hb dX6_line_33 (by decide) (fun c_33 => ?_) (fun c_33 => ?_)
        · skip
          rw [h0] at c_33
          have c_33 : (md 0 2).toNatClampNeg ≤ k := (k_le (by have := k_clamp_lt (md 0 2); omega)).mp c_33
          have hk5 : k = (md 0 2).toNatClampNeg := by omega
          have hq2 : itr (lmS (md 0) v) (up2 (up2 md 7 19 0) 7 7 0) (md 0 2).toNatClampNeg = u := by rw [← hk5]; exact hq
          refine lv_iconst (v := 0) hx hb dX6_line_167 (by decide) ?_
          refine lv_istore_n (lv' := [(2, .int 0), (0, .ref q), (1, .int v)]) hx hb dX6_line_168 rfl hl (by decide) rfl (fun ls hl => ?_)
          have lp_169 : ∀ (D j : Nat) (u2 : FL), 5 - j < D → j ≤ 5 → (lmE md v = bkM (5 - j) j u2) → ∀ (ls : Array Slot) (H : Heap) (locs : List Loc), hR g (putD g M q u2) H → va_S (gA g) s.heap H locs → lv_has ls 5 [(2, .int (nI j)), (0, .ref q), (1, .int v)] → W p l e (rmOf 5 0 0) s m [.ref q, .int v].toArray below meth c H locs 0 0 (vx_MQ below (KQ g (.inl (some (.int (if inB v 0 (md 0 4 - 1) then lmE md v 7 7 else 0)), (putD g M q (if inB v 0 (md 0 4 - 1) then lmE md v else up2 md 7 19 1))))) (KX g (.inl (some (.int (if inB v 0 (md 0 4 - 1) then lmE md v 7 7 else 0)), (putD g M q (if inB v 0 (md 0 4 - 1) then lmE md v else up2 md 7 19 1))))) [.ref q, .int v].toArray s 0 0 (gA g)) (F0 m 169 ls []) := by
            intro D
            induction D with
            | zero => intro j u2 hD; exact absurd hD (Nat.not_lt_zero _)
            | succ D ih_169 =>
              intro j u2 hD hk hq3 ls H locs hM hS hl
              have hW := MdAt.put (g := g) (M := M) (m := q) (md := u2)
              refine lv_iload_n hx hb dX6_line_169 rfl (lv_at hl 0 rfl) ?_
              refine lv_iconst (v := 5) hx hb dX6_line_170 (by decide) ?_
              refine lv_icmp_ge (tgt := 210) hx hb dX6_line_171 (by decide) (fun c_171 => ?_) (fun c_171 => ?_)
              · skip
                have c_171 := (k_leL (b := 5) rfl (by decide) (by omega)).mp c_171
                have hE5 : lmE md v = u2 := hq3.trans (by rw [show 5 - j = 0 by omega]; rfl)
                refine lv_aload_n hx hb dX6_line_210 rfl (lv_at hl 1 rfl) ?_
                refine gt_X6_194 hc dX6_line_211 hM hW.o (v := .int (u2 7 7)) rfl ?_
                exact k_iret hc hr dX6_line_214 hM hS (Nat.le_of_ble_eq_true rfl) (Nat.le_of_ble_eq_true rfl) (by rw [if_pos c_10, if_pos c_10, hE5])
              · skip
                have c_171 : ¬ 5 ≤ j := fun h => c_171 ((k_leL (b := 5) rfl (by decide) (by omega)).mpr h)
                refine lv_aload_n hx hb dX6_line_174 rfl (lv_at hl 1 rfl) ?_
                refine gt_X6_194 hc dX6_line_175 hM hW.o (v := .int (u2 7 7)) rfl ?_
                refine lv_iload_n hx hb dX6_line_178 rfl (lv_at hl 0 rfl) ?_
                refine lv_icmp_ne (tgt := 210) hx hb dX6_line_179 (by decide) (fun c_179 => ?_) (fun c_179 => ?_)
                · skip
                  have hE5 : lmE md v = u2 := hq3.trans (by rw [show 5 - j = (5 - (j + 1)) + 1 by omega]; exact if_neg c_179)
                  refine lv_aload_n hx hb dX6_line_210 rfl (lv_at hl 1 rfl) ?_
                  refine gt_X6_194 hc dX6_line_211 hM hW.o (v := .int (u2 7 7)) rfl ?_
                  exact k_iret hc hr dX6_line_214 hM hS (Nat.le_of_ble_eq_true rfl) (Nat.le_of_ble_eq_true rfl) (by rw [if_pos c_10, if_pos c_10, hE5])
                · skip
                  refine lv_aload_n hx hb dX6_line_182 rfl (lv_at hl 1 rfl) ?_
                  refine gt_X6_22 hc dX6_line_183 hM hW.o rfl ?_
                  refine lv_aload_n hx hb dX6_line_186 rfl (lv_at hl 1 rfl) ?_
                  refine lv_dup hx hb dX6_line_187 rfl ?_
                  refine gt_X6_194 hc dX6_line_188 hM hW.o (v := .int (u2 7 7)) rfl ?_
                  refine lv_dup_x1 hx hb dX6_line_191 rfl rfl ?_
                  refine lv_iconst (v := 1) hx hb dX6_line_192 (by decide) ?_
                  refine lv_iadd hx hb dX6_line_193 ?_
                  refine pt_X6_194 hc dX6_line_194 hM hS hW.o rfl rfl (Nat.le_of_ble_eq_true rfl) (fun H locs hM hS => ?_)
                  have hM := hR.eq hM (putD_sc hW 7 (v := ((u2 7 7) + 1)) md_s7)
                  have hM := hR.eq hM putD_putD
                  have hW := MdAt.put (g := g) (M := M) (m := q) (md := (up2 u2 7 7 ((u2 7 7) + 1)))
                  refine va_ldcS hx hb hc.2.2.2.1 (k_strN hc 9 tx_9) dX6_line_197 ?_
                  refine lv_iload_n hx hb dX6_line_199 rfl (lv_at hl 0 rfl) ?_
                  refine k_VJ hc [.int (nI j)] rfl cw_X6_199 dX6_line_200 (c_J0_charAt l hlf g _ 9 blB j rfl (by decide) (show j < 5 by omega)) hM hS hl.1 rfl rfl ⟨Nat.le_of_ble_eq_true rfl, Nat.le_of_ble_eq_true rfl⟩ ⟨Nat.le_of_ble_eq_true rfl, Nat.le_of_ble_eq_true rfl⟩ (Nat.le_of_ble_eq_true rfl) (fun H locs hM hS => ?_)
                  refine k_iast hc hM hS (show (putD g M q (up2 u2 7 7 ((u2 7 7) + 1))) (q + 5) = some (.inl (gI g, 100, .inl (u2 4))) from (hW.ar 4 (by decide) (by decide) rfl rfl)) (by rw [c_179]; exact vp_in_nI (by omega) (by decide)) dX6_line_203 (fun H locs hM hS => ?_)
                  have hM := hR.eq hM (putD_ar hW 4 (by decide) (by decide) rfl rfl)
                  have hM := hR.eq hM putD_putD
                  have hW := MdAt.put (g := g) (M := M) (m := q) (md := (up1 (up2 u2 7 7 ((u2 7 7) + 1)) 4 (upd (u2 4) ((u2 7 7).toNatClampNeg) (chI blB j))))
                  have hM := hR.eq hM (congrArg (putD g M q) lp_mk)
                  have hW := MdAt.put (g := g) (M := M) (m := q) (md := (lpM u2 (chI blB j)))
                  refine lv_iinc (v := (nI (j + 1))) (lv' := [(2, .int (nI (j + 1))), (0, .ref q), (1, .int v)]) hx hb dX6_line_204 hl (k := 0) rfl (k_inc1 _) (by decide) rfl (fun ls hl => ?_)
                  refine lv_goto (tgt := 169) hx hb dX6_line_207 (by decide) ?_
                  exact ih_169 (j + 1) (lpM u2 (chI blB j)) (by omega) (by omega) (hq3.trans (by rw [show 5 - j = (5 - (j + 1)) + 1 by omega]; exact if_pos c_179)) ls _ _ hM hS (lv_sub hl [0, 1, 2] rfl)
          have z_2 : 0 = (nI 0) := rfl
          have hl := lv_chg (lv_sub hl [0, 1, 2] rfl) z_2
          exact lp_169 (5 + 1) 0 u (by omega) (by omega) (by rw [lmE, hq2]) ls _ _ hM hS (lv_sub hl [0, 1, 2] rfl)
        · skip
          rw [h0] at c_33
          have c_33 : ¬ (md 0 2).toNatClampNeg ≤ k := fun h => c_33 ((k_le (by have := k_clamp_lt (md 0 2); omega)).mpr h)
          have ok_33 := kS_ok (f := md 0) hI c_33
          have hk10 : k < 10 := by have := clampN (n := 10) (b := 10) rfl hI.1; omega
          have hZ0 : lOk (up2 (up2 md 7 19 0) 7 7 0) 100 := (show ¬ (0 : Int32) < 0 ∧ (0 : Int32).toNatClampNeg + 100 ≤ 100 by decide)
          have hL9 : lOk u 9 := lOk_le (n := 100 - 9 * k) (by rw [← hq]; exact lm_ok hZ0 k (by omega)) (by omega)
          refine lv_aload_n hx hb dX6_line_36 rfl (lv_at hl 1 rfl) ?_
          refine lv_iload_n hx hb dX6_line_37 rfl (lv_at hl 0 rfl) ?_
          refine lv_iload_n hx hb dX6_line_38 rfl (lv_at hl 2 rfl) ?_
          refine k_V1 (v := .int (mD (u 0) (nI k) v)) hc [.int (nI k), .int v] cw_X6_125 rfl dX6_line_39 (c_X6_drawn l hlf g _ q u (nI k) v hW (by first | assumption | decide) (by first | assumption | decide)) hW.o hM hS hl.1 rfl rfl ⟨Nat.le_of_ble_eq_true rfl, Nat.le_of_ble_eq_true rfl⟩ ⟨Nat.le_of_ble_eq_true rfl, Nat.le_of_ble_eq_true rfl⟩ (Nat.le_of_ble_eq_true rfl) (fun H locs hM hS => ?_)
          refine lv_istore_n (lv' := [(3, .int (mD (u 0) (nI k) v)), (2, .int (nI k)), (0, .ref q), (1, .int v)]) hx hb dX6_line_42 rfl hl (by decide) rfl (fun ls hl => ?_)
          have z_3 : (mD (u 0) (nI k) v) = (mD (md 0) (nI k) v) := (by rw [h0])
          have hl := lv_chg (lv_sub hl [0, 1, 2, 3] rfl) z_3
          refine lv_iload_n hx hb dX6_line_43 rfl (lv_at hl 0 rfl) ?_
          refine lv_if_ge (tgt := 50) hx hb dX6_line_44 (by decide) (fun c_44 => ?_) (fun c_44 => ?_)
          · skip
            obtain ⟨a, b, hpa, hpb, ea, eb⟩ := (hV k hk10).resolve_left (fun h => h c_44)
            refine lv_aload_n hx hb dX6_line_50 rfl (lv_at hl 2 rfl) ?_
            refine gt_X6_194 hc dX6_line_51 hM hW.o (v := .int (u 7 7)) rfl ?_
            refine lv_if_le (tgt := 75) hx hb dX6_line_54 (by decide) (fun c_54 => ?_) (fun c_54 => ?_)
            · skip
              have hA : lOk u 8 := lOk_le hL9 (by omega)
              have hkA : lkA u = u := if_pos c_54
              refine lv_aload_n hx hb dX6_line_75 rfl (lv_at hl 2 rfl) ?_
              refine lv_iload_n hx hb dX6_line_76 rfl (lv_at hl 1 rfl) ?_
              refine k_V0 hc [.int (nI k)] cw_X6_190 rfl dX6_line_77 (c_X6_writesNumber l hlf g _ q u (nI k) hW (d10_9 k (by omega)) (lOk_le hA (by omega))) hW.o hM hS hl.1 rfl rfl ⟨Nat.le_of_ble_eq_true rfl, Nat.le_of_ble_eq_true rfl⟩ ⟨Nat.le_of_ble_eq_true rfl, Nat.le_of_ble_eq_true rfl⟩ (Nat.le_of_ble_eq_true rfl) (fun H locs hM hS => ?_)
              have hM := hR.eq hM putD_putD
              have hW := MdAt.put (g := g) (M := M) (m := q) (md := (lnM u (nI k)))
              have hB : lOk (lnM u (nI k)) 6 := lOk_n hA
              refine lv_aload_n hx hb dX6_line_80 rfl (lv_at hl 2 rfl) ?_
              refine gt_X6_22 hc dX6_line_81 hM hW.o rfl ?_
              refine lv_aload_n hx hb dX6_line_84 rfl (lv_at hl 2 rfl) ?_
              refine lv_dup hx hb dX6_line_85 rfl ?_
              refine gt_X6_194 hc dX6_line_86 hM hW.o (v := .int ((lnM u (nI k)) 7 7)) rfl ?_
              refine lv_dup_x1 hx hb dX6_line_89 rfl rfl ?_
              refine lv_iconst (v := 1) hx hb dX6_line_90 (by decide) ?_
              refine lv_iadd hx hb dX6_line_91 ?_
              refine pt_X6_194 hc dX6_line_92 hM hS hW.o rfl rfl (Nat.le_of_ble_eq_true rfl) (fun H locs hM hS => ?_)
              have hM := hR.eq hM (putD_sc hW 7 (v := (((lnM u (nI k)) 7 7) + 1)) md_s7)
              have hM := hR.eq hM putD_putD
              have hW := MdAt.put (g := g) (M := M) (m := q) (md := (up2 (lnM u (nI k)) 7 7 (((lnM u (nI k)) 7 7) + 1)))
              refine lv_bipush (v := 64) hx hb dX6_line_95 (by decide) ?_
              refine k_iast hc hM hS (show (putD g M q (up2 (lnM u (nI k)) 7 7 (((lnM u (nI k)) 7 7) + 1))) (q + 5) = some (.inl (gI g, 100, .inl ((lnM u (nI k)) 4))) from (hW.ar 4 (by decide) (by decide) rfl rfl)) (lIn (n := 5) hB) dX6_line_97 (fun H locs hM hS => ?_)
              have hM := hR.eq hM (putD_ar hW 4 (by decide) (by decide) rfl rfl)
              have hM := hR.eq hM putD_putD
              have hW := MdAt.put (g := g) (M := M) (m := q) (md := (up1 (up2 (lnM u (nI k)) 7 7 (((lnM u (nI k)) 7 7) + 1)) 4 (upd ((lnM u (nI k)) 4) (((lnM u (nI k)) 7 7).toNatClampNeg) 64)))
              have hM := hR.eq hM (congrArg (putD g M q) lp_mk)
              have hW := MdAt.put (g := g) (M := M) (m := q) (md := (lpM (lnM u (nI k)) 64))
              have hC : lOk (lpM (lnM u (nI k)) 64) 5 := lOk_s hB
              refine lv_aload_n hx hb dX6_line_98 rfl (lv_at hl 2 rfl) ?_
              refine lv_iload_n hx hb dX6_line_99 rfl (lv_at hl 0 rfl) ?_
              refine k_V0 hc [.int (mD (md 0) (nI k) v)] cw_X6_190 rfl dX6_line_100 (c_X6_writesNumber l hlf g _ q (lpM (lnM u (nI k)) 64) (mD (md 0) (nI k) v) hW (by rw [ea]; exact d10_9 a hpa) (lOk_le hC (by omega))) hW.o hM hS hl.1 rfl rfl ⟨Nat.le_of_ble_eq_true rfl, Nat.le_of_ble_eq_true rfl⟩ ⟨Nat.le_of_ble_eq_true rfl, Nat.le_of_ble_eq_true rfl⟩ (Nat.le_of_ble_eq_true rfl) (fun H locs hM hS => ?_)
              have hM := hR.eq hM putD_putD
              have hW := MdAt.put (g := g) (M := M) (m := q) (md := (lnM (lpM (lnM u (nI k)) 64) (mD (md 0) (nI k) v)))
              have hD : lOk (lnM (lpM (lnM u (nI k)) 64) (mD (md 0) (nI k) v)) 3 := lOk_n hC
              have hX0 : (lnM (lpM (lnM u (nI k)) 64) (mD (md 0) (nI k) v)) 0 = md 0 := by simp only [lp_0, ln_0]; exact h0
              refine lv_iload_n hx hb dX6_line_103 rfl (lv_at hl 0 rfl) ?_
              refine lv_aload_n hx hb dX6_line_104 rfl (lv_at hl 2 rfl) ?_
              refine gt_X6_9 hc dX6_line_105 hM hW.o rfl ?_
              refine lv_bipush (v := 9) hx hb dX6_line_108 (by decide) ?_
              refine lv_iload_n hx hb dX6_line_110 rfl (lv_at hl 1 rfl) ?_
              refine lv_iadd hx hb dX6_line_111 ?_
              refine k_iald hc hM (hW.ar 0 (by decide) (by decide) rfl rfl) (inS (by assumption)) dX6_line_112 ?_
              refine lv_isub hx hb dX6_line_113 ?_
              refine lv_istore (lv' := [(4, .int ((mD (md 0) (nI k) v) - (((lnM (lpM (lnM u (nI k)) 64) (mD (md 0) (nI k) v)) 0) (9 + (nI k)).toNatClampNeg))), (3, .int (mD (md 0) (nI k) v)), (2, .int (nI k)), (0, .ref q), (1, .int v)]) hx hb dX6_line_114 hl (by decide) rfl (fun ls hl => ?_)
              have z_4 : ((mD (md 0) (nI k) v) - (((lnM (lpM (lnM u (nI k)) 64) (mD (md 0) (nI k) v)) 0) (9 + (nI k)).toNatClampNeg)) = ((mD (md 0) (nI k) v) - (mS (md 0) (nI k))) := (by rw [hX0])
              have hl := lv_chg (lv_sub hl [0, 1, 2, 3, 4] rfl) z_4
              refine lv_iload hx hb dX6_line_116 (lv_at hl 0 rfl) ?_
              refine lv_if_ne (tgt := 124) hx hb dX6_line_118 (by decide) (fun c_118 => ?_) (fun c_118 => ?_)
              · skip
                refine lv_aload_n hx hb dX6_line_124 rfl (lv_at hl 3 rfl) ?_
                refine gt_X6_22 hc dX6_line_125 hM hW.o rfl ?_
                refine lv_aload_n hx hb dX6_line_128 rfl (lv_at hl 3 rfl) ?_
                refine lv_dup hx hb dX6_line_129 rfl ?_
                refine gt_X6_194 hc dX6_line_130 hM hW.o (v := .int ((lnM (lpM (lnM u (nI k)) 64) (mD (md 0) (nI k) v)) 7 7)) rfl ?_
                refine lv_dup_x1 hx hb dX6_line_133 rfl rfl ?_
                refine lv_iconst (v := 1) hx hb dX6_line_134 (by decide) ?_
                refine lv_iadd hx hb dX6_line_135 ?_
                refine pt_X6_194 hc dX6_line_136 hM hS hW.o rfl rfl (Nat.le_of_ble_eq_true rfl) (fun H locs hM hS => ?_)
                have hM := hR.eq hM (putD_sc hW 7 (v := (((lnM (lpM (lnM u (nI k)) 64) (mD (md 0) (nI k) v)) 7 7) + 1)) md_s7)
                have hM := hR.eq hM putD_putD
                have hW := MdAt.put (g := g) (M := M) (m := q) (md := (up2 (lnM (lpM (lnM u (nI k)) 64) (mD (md 0) (nI k) v)) 7 7 (((lnM (lpM (lnM u (nI k)) 64) (mD (md 0) (nI k) v)) 7 7) + 1)))
                refine lv_iload hx hb dX6_line_139 (lv_at hl 0 rfl) ?_
                refine lv_if_le (tgt := 149) hx hb dX6_line_141 (by decide) (fun c_141 => ?_) (fun c_141 => ?_)
                · skip
                  refine lv_bipush (v := 45) hx hb dX6_line_149 (by decide) ?_
                  refine k_iast hc hM hS (show (putD g M q (up2 (lnM (lpM (lnM u (nI k)) 64) (mD (md 0) (nI k) v)) 7 7 (((lnM (lpM (lnM u (nI k)) 64) (mD (md 0) (nI k) v)) 7 7) + 1))) (q + 5) = some (.inl (gI g, 100, .inl ((lnM (lpM (lnM u (nI k)) 64) (mD (md 0) (nI k) v)) 4))) from (hW.ar 4 (by decide) (by decide) rfl rfl)) (lIn (n := 2) hD) dX6_line_151 (fun H locs hM hS => ?_)
                  have hM := hR.eq hM (putD_ar hW 4 (by decide) (by decide) rfl rfl)
                  have hM := hR.eq hM putD_putD
                  have hW := MdAt.put (g := g) (M := M) (m := q) (md := (up1 (up2 (lnM (lpM (lnM u (nI k)) 64) (mD (md 0) (nI k) v)) 7 7 (((lnM (lpM (lnM u (nI k)) 64) (mD (md 0) (nI k) v)) 7 7) + 1)) 4 (upd ((lnM (lpM (lnM u (nI k)) 64) (mD (md 0) (nI k) v)) 4) (((lnM (lpM (lnM u (nI k)) 64) (mD (md 0) (nI k) v)) 7 7).toNatClampNeg) 45)))
                  have hM := hR.eq hM (congrArg (putD g M q) lp_mk)
                  have hW := MdAt.put (g := g) (M := M) (m := q) (md := (lpM (lnM (lpM (lnM u (nI k)) 64) (mD (md 0) (nI k) v)) 45))
                  have hE : lOk (lpM (lnM (lpM (lnM u (nI k)) 64) (mD (md 0) (nI k) v)) 45) 2 := lOk_s hD
                  refine lv_aload_n hx hb dX6_line_152 rfl (lv_at hl 3 rfl) ?_
                  refine lv_iload hx hb dX6_line_153 (lv_at hl 0 rfl) ?_
                  refine k_abs hc q_X6_94 dX6_line_155 hl.1 ⟨Nat.le_of_ble_eq_true rfl, Nat.le_of_ble_eq_true rfl, Nat.le_of_ble_eq_true rfl, Nat.le_of_ble_eq_true rfl⟩ ?_
                  refine k_V0 hc [.int (absI ((mD (md 0) (nI k) v) - (mS (md 0) (nI k))))] cw_X6_190 rfl dX6_line_158 (c_X6_writesNumber l hlf g _ q (lpM (lnM (lpM (lnM u (nI k)) 64) (mD (md 0) (nI k) v)) 45) (absI ((mD (md 0) (nI k) v) - (mS (md 0) (nI k)))) hW (by rw [ea, eb]; exact d10_o a hpa b hpb) hE) hW.o hM hS hl.1 rfl rfl ⟨Nat.le_of_ble_eq_true rfl, Nat.le_of_ble_eq_true rfl⟩ ⟨Nat.le_of_ble_eq_true rfl, Nat.le_of_ble_eq_true rfl⟩ (Nat.le_of_ble_eq_true rfl) (fun H locs hM hS => ?_)
                  have hM := hR.eq hM putD_putD
                  have hW := MdAt.put (g := g) (M := M) (m := q) (md := (lnM (lpM (lnM (lpM (lnM u (nI k)) 64) (mD (md 0) (nI k) v)) 45) (absI ((mD (md 0) (nI k) v) - (mS (md 0) (nI k))))))
                  refine lv_iinc (v := (nI (k + 1))) (lv' := [(2, .int (nI (k + 1))), (4, .int ((mD (md 0) (nI k) v) - (mS (md 0) (nI k)))), (3, .int (mD (md 0) (nI k) v)), (0, .ref q), (1, .int v)]) hx hb dX6_line_161 hl (k := 2) rfl (k_inc1 _) (by decide) rfl (fun ls hl => ?_)
                  refine lv_goto (tgt := 26) hx hb dX6_line_164 (by decide) ?_
                  exact ih_26 (k + 1) (lnM (lpM (lnM (lpM (lnM u (nI k)) 64) (mD (md 0) (nI k) v)) 45) (absI ((mD (md 0) (nI k) v) - (mS (md 0) (nI k))))) (by omega) (by omega) (by simp only [lp_0, ln_0]; exact h0) (by rw [itr_s, hq]; simp only [lmS, lkM, lkB, hkA, eq_true c_10, eq_false c_33, eq_true c_44, eq_true c_54, eq_false c_118, eq_true c_141, not_false_eq_true, not_true_eq_false, and_true, true_and, and_false, false_and, and_self, ↓reduceIte, or_true, true_or, or_self, or_false, false_or]) ls _ _ hM hS (lv_sub hl [0, 3, 4] rfl)
                · skip
                  refine lv_bipush (v := 43) hx hb dX6_line_144 (by decide) ?_
                  refine lv_goto (tgt := 151) hx hb dX6_line_146 (by decide) ?_
                  refine k_iast hc hM hS (show (putD g M q (up2 (lnM (lpM (lnM u (nI k)) 64) (mD (md 0) (nI k) v)) 7 7 (((lnM (lpM (lnM u (nI k)) 64) (mD (md 0) (nI k) v)) 7 7) + 1))) (q + 5) = some (.inl (gI g, 100, .inl ((lnM (lpM (lnM u (nI k)) 64) (mD (md 0) (nI k) v)) 4))) from (hW.ar 4 (by decide) (by decide) rfl rfl)) (lIn (n := 2) hD) dX6_line_151 (fun H locs hM hS => ?_)
                  have hM := hR.eq hM (putD_ar hW 4 (by decide) (by decide) rfl rfl)
                  have hM := hR.eq hM putD_putD
                  have hW := MdAt.put (g := g) (M := M) (m := q) (md := (up1 (up2 (lnM (lpM (lnM u (nI k)) 64) (mD (md 0) (nI k) v)) 7 7 (((lnM (lpM (lnM u (nI k)) 64) (mD (md 0) (nI k) v)) 7 7) + 1)) 4 (upd ((lnM (lpM (lnM u (nI k)) 64) (mD (md 0) (nI k) v)) 4) (((lnM (lpM (lnM u (nI k)) 64) (mD (md 0) (nI k) v)) 7 7).toNatClampNeg) 43)))
                  have hM := hR.eq hM (congrArg (putD g M q) lp_mk)
                  have hW := MdAt.put (g := g) (M := M) (m := q) (md := (lpM (lnM (lpM (lnM u (nI k)) 64) (mD (md 0) (nI k) v)) 43))
                  have hE : lOk (lpM (lnM (lpM (lnM u (nI k)) 64) (mD (md 0) (nI k) v)) 43) 2 := lOk_s hD
                  refine lv_aload_n hx hb dX6_line_152 rfl (lv_at hl 3 rfl) ?_
                  refine lv_iload hx hb dX6_line_153 (lv_at hl 0 rfl) ?_
                  refine k_abs hc q_X6_94 dX6_line_155 hl.1 ⟨Nat.le_of_ble_eq_true rfl, Nat.le_of_ble_eq_true rfl, Nat.le_of_ble_eq_true rfl, Nat.le_of_ble_eq_true rfl⟩ ?_
                  refine k_V0 hc [.int (absI ((mD (md 0) (nI k) v) - (mS (md 0) (nI k))))] cw_X6_190 rfl dX6_line_158 (c_X6_writesNumber l hlf g _ q (lpM (lnM (lpM (lnM u (nI k)) 64) (mD (md 0) (nI k) v)) 43) (absI ((mD (md 0) (nI k) v) - (mS (md 0) (nI k)))) hW (by rw [ea, eb]; exact d10_o a hpa b hpb) hE) hW.o hM hS hl.1 rfl rfl ⟨Nat.le_of_ble_eq_true rfl, Nat.le_of_ble_eq_true rfl⟩ ⟨Nat.le_of_ble_eq_true rfl, Nat.le_of_ble_eq_true rfl⟩ (Nat.le_of_ble_eq_true rfl) (fun H locs hM hS => ?_)
                  have hM := hR.eq hM putD_putD
                  have hW := MdAt.put (g := g) (M := M) (m := q) (md := (lnM (lpM (lnM (lpM (lnM u (nI k)) 64) (mD (md 0) (nI k) v)) 43) (absI ((mD (md 0) (nI k) v) - (mS (md 0) (nI k))))))
                  refine lv_iinc (v := (nI (k + 1))) (lv' := [(2, .int (nI (k + 1))), (4, .int ((mD (md 0) (nI k) v) - (mS (md 0) (nI k)))), (3, .int (mD (md 0) (nI k) v)), (0, .ref q), (1, .int v)]) hx hb dX6_line_161 hl (k := 2) rfl (k_inc1 _) (by decide) rfl (fun ls hl => ?_)
                  refine lv_goto (tgt := 26) hx hb dX6_line_164 (by decide) ?_
                  exact ih_26 (k + 1) (lnM (lpM (lnM (lpM (lnM u (nI k)) 64) (mD (md 0) (nI k) v)) 43) (absI ((mD (md 0) (nI k) v) - (mS (md 0) (nI k))))) (by omega) (by omega) (by simp only [lp_0, ln_0]; exact h0) (by rw [itr_s, hq]; simp only [lmS, lkM, lkB, hkA, eq_true c_10, eq_false c_33, eq_true c_44, eq_true c_54, eq_false c_118, eq_false c_141, not_false_eq_true, not_true_eq_false, and_true, true_and, and_false, false_and, and_self, ↓reduceIte, or_true, true_or, or_self, or_false, false_or]) ls _ _ hM hS (lv_sub hl [0, 3, 4] rfl)
              · skip
                refine lv_goto (tgt := 161) hx hb dX6_line_121 (by decide) ?_
                refine lv_iinc (v := (nI (k + 1))) (lv' := [(2, .int (nI (k + 1))), (4, .int ((mD (md 0) (nI k) v) - (mS (md 0) (nI k)))), (3, .int (mD (md 0) (nI k) v)), (0, .ref q), (1, .int v)]) hx hb dX6_line_161 hl (k := 2) rfl (k_inc1 _) (by decide) rfl (fun ls hl => ?_)
                refine lv_goto (tgt := 26) hx hb dX6_line_164 (by decide) ?_
                exact ih_26 (k + 1) (lnM (lpM (lnM u (nI k)) 64) (mD (md 0) (nI k) v)) (by omega) (by omega) (by simp only [lp_0, ln_0]; exact h0) (by rw [itr_s, hq]; simp only [lmS, lkM, lkB, hkA, eq_true c_10, eq_false c_33, eq_true c_44, eq_true c_54, eq_true c_118, not_false_eq_true, not_true_eq_false, and_true, true_and, and_false, false_and, and_self, ↓reduceIte, or_true, true_or, or_self, or_false, false_or]) ls _ _ hM hS (lv_sub hl [0, 3, 4] rfl)
            · skip
              refine lv_aload_n hx hb dX6_line_57 rfl (lv_at hl 2 rfl) ?_
              refine gt_X6_22 hc dX6_line_58 hM hW.o rfl ?_
              refine lv_aload_n hx hb dX6_line_61 rfl (lv_at hl 2 rfl) ?_
              refine lv_dup hx hb dX6_line_62 rfl ?_
              refine gt_X6_194 hc dX6_line_63 hM hW.o (v := .int (u 7 7)) rfl ?_
              refine lv_dup_x1 hx hb dX6_line_66 rfl rfl ?_
              refine lv_iconst (v := 1) hx hb dX6_line_67 (by decide) ?_
              refine lv_iadd hx hb dX6_line_68 ?_
              refine pt_X6_194 hc dX6_line_69 hM hS hW.o rfl rfl (Nat.le_of_ble_eq_true rfl) (fun H locs hM hS => ?_)
              have hM := hR.eq hM (putD_sc hW 7 (v := ((u 7 7) + 1)) md_s7)
              have hM := hR.eq hM putD_putD
              have hW := MdAt.put (g := g) (M := M) (m := q) (md := (up2 u 7 7 ((u 7 7) + 1)))
              refine lv_bipush (v := 32) hx hb dX6_line_72 (by decide) ?_
              refine k_iast hc hM hS (show (putD g M q (up2 u 7 7 ((u 7 7) + 1))) (q + 5) = some (.inl (gI g, 100, .inl (u 4))) from (hW.ar 4 (by decide) (by decide) rfl rfl)) (lIn (n := 8) hL9) dX6_line_74 (fun H locs hM hS => ?_)
              have hM := hR.eq hM (putD_ar hW 4 (by decide) (by decide) rfl rfl)
              have hM := hR.eq hM putD_putD
              have hW := MdAt.put (g := g) (M := M) (m := q) (md := (up1 (up2 u 7 7 ((u 7 7) + 1)) 4 (upd (u 4) ((u 7 7).toNatClampNeg) 32)))
              have hM := hR.eq hM (congrArg (putD g M q) lp_mk)
              have hW := MdAt.put (g := g) (M := M) (m := q) (md := (lpM u 32))
              have hA : lOk (lpM u 32) 8 := lOk_s hL9
              have hkA : lkA u = lpM u 32 := if_neg c_54
              refine lv_aload_n hx hb dX6_line_75 rfl (lv_at hl 2 rfl) ?_
              refine lv_iload_n hx hb dX6_line_76 rfl (lv_at hl 1 rfl) ?_
              refine k_V0 hc [.int (nI k)] cw_X6_190 rfl dX6_line_77 (c_X6_writesNumber l hlf g _ q (lpM u 32) (nI k) hW (d10_9 k (by omega)) (lOk_le hA (by omega))) hW.o hM hS hl.1 rfl rfl ⟨Nat.le_of_ble_eq_true rfl, Nat.le_of_ble_eq_true rfl⟩ ⟨Nat.le_of_ble_eq_true rfl, Nat.le_of_ble_eq_true rfl⟩ (Nat.le_of_ble_eq_true rfl) (fun H locs hM hS => ?_)
              have hM := hR.eq hM putD_putD
              have hW := MdAt.put (g := g) (M := M) (m := q) (md := (lnM (lpM u 32) (nI k)))
              have hB : lOk (lnM (lpM u 32) (nI k)) 6 := lOk_n hA
              refine lv_aload_n hx hb dX6_line_80 rfl (lv_at hl 2 rfl) ?_
              refine gt_X6_22 hc dX6_line_81 hM hW.o rfl ?_
              refine lv_aload_n hx hb dX6_line_84 rfl (lv_at hl 2 rfl) ?_
              refine lv_dup hx hb dX6_line_85 rfl ?_
              refine gt_X6_194 hc dX6_line_86 hM hW.o (v := .int ((lnM (lpM u 32) (nI k)) 7 7)) rfl ?_
              refine lv_dup_x1 hx hb dX6_line_89 rfl rfl ?_
              refine lv_iconst (v := 1) hx hb dX6_line_90 (by decide) ?_
              refine lv_iadd hx hb dX6_line_91 ?_
              refine pt_X6_194 hc dX6_line_92 hM hS hW.o rfl rfl (Nat.le_of_ble_eq_true rfl) (fun H locs hM hS => ?_)
              have hM := hR.eq hM (putD_sc hW 7 (v := (((lnM (lpM u 32) (nI k)) 7 7) + 1)) md_s7)
              have hM := hR.eq hM putD_putD
              have hW := MdAt.put (g := g) (M := M) (m := q) (md := (up2 (lnM (lpM u 32) (nI k)) 7 7 (((lnM (lpM u 32) (nI k)) 7 7) + 1)))
              refine lv_bipush (v := 64) hx hb dX6_line_95 (by decide) ?_
              refine k_iast hc hM hS (show (putD g M q (up2 (lnM (lpM u 32) (nI k)) 7 7 (((lnM (lpM u 32) (nI k)) 7 7) + 1))) (q + 5) = some (.inl (gI g, 100, .inl ((lnM (lpM u 32) (nI k)) 4))) from (hW.ar 4 (by decide) (by decide) rfl rfl)) (lIn (n := 5) hB) dX6_line_97 (fun H locs hM hS => ?_)
              have hM := hR.eq hM (putD_ar hW 4 (by decide) (by decide) rfl rfl)
              have hM := hR.eq hM putD_putD
              have hW := MdAt.put (g := g) (M := M) (m := q) (md := (up1 (up2 (lnM (lpM u 32) (nI k)) 7 7 (((lnM (lpM u 32) (nI k)) 7 7) + 1)) 4 (upd ((lnM (lpM u 32) (nI k)) 4) (((lnM (lpM u 32) (nI k)) 7 7).toNatClampNeg) 64)))
              have hM := hR.eq hM (congrArg (putD g M q) lp_mk)
              have hW := MdAt.put (g := g) (M := M) (m := q) (md := (lpM (lnM (lpM u 32) (nI k)) 64))
              have hC : lOk (lpM (lnM (lpM u 32) (nI k)) 64) 5 := lOk_s hB
              refine lv_aload_n hx hb dX6_line_98 rfl (lv_at hl 2 rfl) ?_
              refine lv_iload_n hx hb dX6_line_99 rfl (lv_at hl 0 rfl) ?_
              refine k_V0 hc [.int (mD (md 0) (nI k) v)] cw_X6_190 rfl dX6_line_100 (c_X6_writesNumber l hlf g _ q (lpM (lnM (lpM u 32) (nI k)) 64) (mD (md 0) (nI k) v) hW (by rw [ea]; exact d10_9 a hpa) (lOk_le hC (by omega))) hW.o hM hS hl.1 rfl rfl ⟨Nat.le_of_ble_eq_true rfl, Nat.le_of_ble_eq_true rfl⟩ ⟨Nat.le_of_ble_eq_true rfl, Nat.le_of_ble_eq_true rfl⟩ (Nat.le_of_ble_eq_true rfl) (fun H locs hM hS => ?_)
              have hM := hR.eq hM putD_putD
              have hW := MdAt.put (g := g) (M := M) (m := q) (md := (lnM (lpM (lnM (lpM u 32) (nI k)) 64) (mD (md 0) (nI k) v)))
              have hD : lOk (lnM (lpM (lnM (lpM u 32) (nI k)) 64) (mD (md 0) (nI k) v)) 3 := lOk_n hC
              have hX0 : (lnM (lpM (lnM (lpM u 32) (nI k)) 64) (mD (md 0) (nI k) v)) 0 = md 0 := by simp only [lp_0, ln_0]; exact h0
              refine lv_iload_n hx hb dX6_line_103 rfl (lv_at hl 0 rfl) ?_
              refine lv_aload_n hx hb dX6_line_104 rfl (lv_at hl 2 rfl) ?_
              refine gt_X6_9 hc dX6_line_105 hM hW.o rfl ?_
              refine lv_bipush (v := 9) hx hb dX6_line_108 (by decide) ?_
              refine lv_iload_n hx hb dX6_line_110 rfl (lv_at hl 1 rfl) ?_
              refine lv_iadd hx hb dX6_line_111 ?_
              refine k_iald hc hM (hW.ar 0 (by decide) (by decide) rfl rfl) (inS (by assumption)) dX6_line_112 ?_
              refine lv_isub hx hb dX6_line_113 ?_
              refine lv_istore (lv' := [(4, .int ((mD (md 0) (nI k) v) - (((lnM (lpM (lnM (lpM u 32) (nI k)) 64) (mD (md 0) (nI k) v)) 0) (9 + (nI k)).toNatClampNeg))), (3, .int (mD (md 0) (nI k) v)), (2, .int (nI k)), (0, .ref q), (1, .int v)]) hx hb dX6_line_114 hl (by decide) rfl (fun ls hl => ?_)
              have z_4 : ((mD (md 0) (nI k) v) - (((lnM (lpM (lnM (lpM u 32) (nI k)) 64) (mD (md 0) (nI k) v)) 0) (9 + (nI k)).toNatClampNeg)) = ((mD (md 0) (nI k) v) - (mS (md 0) (nI k))) := (by rw [hX0])
              have hl := lv_chg (lv_sub hl [0, 1, 2, 3, 4] rfl) z_4
              refine lv_iload hx hb dX6_line_116 (lv_at hl 0 rfl) ?_
              refine lv_if_ne (tgt := 124) hx hb dX6_line_118 (by decide) (fun c_118 => ?_) (fun c_118 => ?_)
              · skip
                refine lv_aload_n hx hb dX6_line_124 rfl (lv_at hl 3 rfl) ?_
                refine gt_X6_22 hc dX6_line_125 hM hW.o rfl ?_
                refine lv_aload_n hx hb dX6_line_128 rfl (lv_at hl 3 rfl) ?_
                refine lv_dup hx hb dX6_line_129 rfl ?_
                refine gt_X6_194 hc dX6_line_130 hM hW.o (v := .int ((lnM (lpM (lnM (lpM u 32) (nI k)) 64) (mD (md 0) (nI k) v)) 7 7)) rfl ?_
                refine lv_dup_x1 hx hb dX6_line_133 rfl rfl ?_
                refine lv_iconst (v := 1) hx hb dX6_line_134 (by decide) ?_
                refine lv_iadd hx hb dX6_line_135 ?_
                refine pt_X6_194 hc dX6_line_136 hM hS hW.o rfl rfl (Nat.le_of_ble_eq_true rfl) (fun H locs hM hS => ?_)
                have hM := hR.eq hM (putD_sc hW 7 (v := (((lnM (lpM (lnM (lpM u 32) (nI k)) 64) (mD (md 0) (nI k) v)) 7 7) + 1)) md_s7)
                have hM := hR.eq hM putD_putD
                have hW := MdAt.put (g := g) (M := M) (m := q) (md := (up2 (lnM (lpM (lnM (lpM u 32) (nI k)) 64) (mD (md 0) (nI k) v)) 7 7 (((lnM (lpM (lnM (lpM u 32) (nI k)) 64) (mD (md 0) (nI k) v)) 7 7) + 1)))
                refine lv_iload hx hb dX6_line_139 (lv_at hl 0 rfl) ?_
                refine lv_if_le (tgt := 149) hx hb dX6_line_141 (by decide) (fun c_141 => ?_) (fun c_141 => ?_)
                · skip
                  refine lv_bipush (v := 45) hx hb dX6_line_149 (by decide) ?_
                  refine k_iast hc hM hS (show (putD g M q (up2 (lnM (lpM (lnM (lpM u 32) (nI k)) 64) (mD (md 0) (nI k) v)) 7 7 (((lnM (lpM (lnM (lpM u 32) (nI k)) 64) (mD (md 0) (nI k) v)) 7 7) + 1))) (q + 5) = some (.inl (gI g, 100, .inl ((lnM (lpM (lnM (lpM u 32) (nI k)) 64) (mD (md 0) (nI k) v)) 4))) from (hW.ar 4 (by decide) (by decide) rfl rfl)) (lIn (n := 2) hD) dX6_line_151 (fun H locs hM hS => ?_)
                  have hM := hR.eq hM (putD_ar hW 4 (by decide) (by decide) rfl rfl)
                  have hM := hR.eq hM putD_putD
                  have hW := MdAt.put (g := g) (M := M) (m := q) (md := (up1 (up2 (lnM (lpM (lnM (lpM u 32) (nI k)) 64) (mD (md 0) (nI k) v)) 7 7 (((lnM (lpM (lnM (lpM u 32) (nI k)) 64) (mD (md 0) (nI k) v)) 7 7) + 1)) 4 (upd ((lnM (lpM (lnM (lpM u 32) (nI k)) 64) (mD (md 0) (nI k) v)) 4) (((lnM (lpM (lnM (lpM u 32) (nI k)) 64) (mD (md 0) (nI k) v)) 7 7).toNatClampNeg) 45)))
                  have hM := hR.eq hM (congrArg (putD g M q) lp_mk)
                  have hW := MdAt.put (g := g) (M := M) (m := q) (md := (lpM (lnM (lpM (lnM (lpM u 32) (nI k)) 64) (mD (md 0) (nI k) v)) 45))
                  have hE : lOk (lpM (lnM (lpM (lnM (lpM u 32) (nI k)) 64) (mD (md 0) (nI k) v)) 45) 2 := lOk_s hD
                  refine lv_aload_n hx hb dX6_line_152 rfl (lv_at hl 3 rfl) ?_
                  refine lv_iload hx hb dX6_line_153 (lv_at hl 0 rfl) ?_
                  refine k_abs hc q_X6_94 dX6_line_155 hl.1 ⟨Nat.le_of_ble_eq_true rfl, Nat.le_of_ble_eq_true rfl, Nat.le_of_ble_eq_true rfl, Nat.le_of_ble_eq_true rfl⟩ ?_
                  refine k_V0 hc [.int (absI ((mD (md 0) (nI k) v) - (mS (md 0) (nI k))))] cw_X6_190 rfl dX6_line_158 (c_X6_writesNumber l hlf g _ q (lpM (lnM (lpM (lnM (lpM u 32) (nI k)) 64) (mD (md 0) (nI k) v)) 45) (absI ((mD (md 0) (nI k) v) - (mS (md 0) (nI k)))) hW (by rw [ea, eb]; exact d10_o a hpa b hpb) hE) hW.o hM hS hl.1 rfl rfl ⟨Nat.le_of_ble_eq_true rfl, Nat.le_of_ble_eq_true rfl⟩ ⟨Nat.le_of_ble_eq_true rfl, Nat.le_of_ble_eq_true rfl⟩ (Nat.le_of_ble_eq_true rfl) (fun H locs hM hS => ?_)
                  have hM := hR.eq hM putD_putD
                  have hW := MdAt.put (g := g) (M := M) (m := q) (md := (lnM (lpM (lnM (lpM (lnM (lpM u 32) (nI k)) 64) (mD (md 0) (nI k) v)) 45) (absI ((mD (md 0) (nI k) v) - (mS (md 0) (nI k))))))
                  refine lv_iinc (v := (nI (k + 1))) (lv' := [(2, .int (nI (k + 1))), (4, .int ((mD (md 0) (nI k) v) - (mS (md 0) (nI k)))), (3, .int (mD (md 0) (nI k) v)), (0, .ref q), (1, .int v)]) hx hb dX6_line_161 hl (k := 2) rfl (k_inc1 _) (by decide) rfl (fun ls hl => ?_)
                  refine lv_goto (tgt := 26) hx hb dX6_line_164 (by decide) ?_
                  exact ih_26 (k + 1) (lnM (lpM (lnM (lpM (lnM (lpM u 32) (nI k)) 64) (mD (md 0) (nI k) v)) 45) (absI ((mD (md 0) (nI k) v) - (mS (md 0) (nI k))))) (by omega) (by omega) (by simp only [lp_0, ln_0]; exact h0) (by rw [itr_s, hq]; simp only [lmS, lkM, lkB, hkA, eq_true c_10, eq_false c_33, eq_true c_44, eq_false c_54, eq_false c_118, eq_true c_141, not_false_eq_true, not_true_eq_false, and_true, true_and, and_false, false_and, and_self, ↓reduceIte, or_true, true_or, or_self, or_false, false_or]) ls _ _ hM hS (lv_sub hl [0, 3, 4] rfl)
                · skip
                  refine lv_bipush (v := 43) hx hb dX6_line_144 (by decide) ?_
                  refine lv_goto (tgt := 151) hx hb dX6_line_146 (by decide) ?_
                  refine k_iast hc hM hS (show (putD g M q (up2 (lnM (lpM (lnM (lpM u 32) (nI k)) 64) (mD (md 0) (nI k) v)) 7 7 (((lnM (lpM (lnM (lpM u 32) (nI k)) 64) (mD (md 0) (nI k) v)) 7 7) + 1))) (q + 5) = some (.inl (gI g, 100, .inl ((lnM (lpM (lnM (lpM u 32) (nI k)) 64) (mD (md 0) (nI k) v)) 4))) from (hW.ar 4 (by decide) (by decide) rfl rfl)) (lIn (n := 2) hD) dX6_line_151 (fun H locs hM hS => ?_)
                  have hM := hR.eq hM (putD_ar hW 4 (by decide) (by decide) rfl rfl)
                  have hM := hR.eq hM putD_putD
                  have hW := MdAt.put (g := g) (M := M) (m := q) (md := (up1 (up2 (lnM (lpM (lnM (lpM u 32) (nI k)) 64) (mD (md 0) (nI k) v)) 7 7 (((lnM (lpM (lnM (lpM u 32) (nI k)) 64) (mD (md 0) (nI k) v)) 7 7) + 1)) 4 (upd ((lnM (lpM (lnM (lpM u 32) (nI k)) 64) (mD (md 0) (nI k) v)) 4) (((lnM (lpM (lnM (lpM u 32) (nI k)) 64) (mD (md 0) (nI k) v)) 7 7).toNatClampNeg) 43)))
                  have hM := hR.eq hM (congrArg (putD g M q) lp_mk)
                  have hW := MdAt.put (g := g) (M := M) (m := q) (md := (lpM (lnM (lpM (lnM (lpM u 32) (nI k)) 64) (mD (md 0) (nI k) v)) 43))
                  have hE : lOk (lpM (lnM (lpM (lnM (lpM u 32) (nI k)) 64) (mD (md 0) (nI k) v)) 43) 2 := lOk_s hD
                  refine lv_aload_n hx hb dX6_line_152 rfl (lv_at hl 3 rfl) ?_
                  refine lv_iload hx hb dX6_line_153 (lv_at hl 0 rfl) ?_
                  refine k_abs hc q_X6_94 dX6_line_155 hl.1 ⟨Nat.le_of_ble_eq_true rfl, Nat.le_of_ble_eq_true rfl, Nat.le_of_ble_eq_true rfl, Nat.le_of_ble_eq_true rfl⟩ ?_
                  refine k_V0 hc [.int (absI ((mD (md 0) (nI k) v) - (mS (md 0) (nI k))))] cw_X6_190 rfl dX6_line_158 (c_X6_writesNumber l hlf g _ q (lpM (lnM (lpM (lnM (lpM u 32) (nI k)) 64) (mD (md 0) (nI k) v)) 43) (absI ((mD (md 0) (nI k) v) - (mS (md 0) (nI k)))) hW (by rw [ea, eb]; exact d10_o a hpa b hpb) hE) hW.o hM hS hl.1 rfl rfl ⟨Nat.le_of_ble_eq_true rfl, Nat.le_of_ble_eq_true rfl⟩ ⟨Nat.le_of_ble_eq_true rfl, Nat.le_of_ble_eq_true rfl⟩ (Nat.le_of_ble_eq_true rfl) (fun H locs hM hS => ?_)
                  have hM := hR.eq hM putD_putD
                  have hW := MdAt.put (g := g) (M := M) (m := q) (md := (lnM (lpM (lnM (lpM (lnM (lpM u 32) (nI k)) 64) (mD (md 0) (nI k) v)) 43) (absI ((mD (md 0) (nI k) v) - (mS (md 0) (nI k))))))
                  refine lv_iinc (v := (nI (k + 1))) (lv' := [(2, .int (nI (k + 1))), (4, .int ((mD (md 0) (nI k) v) - (mS (md 0) (nI k)))), (3, .int (mD (md 0) (nI k) v)), (0, .ref q), (1, .int v)]) hx hb dX6_line_161 hl (k := 2) rfl (k_inc1 _) (by decide) rfl (fun ls hl => ?_)
                  refine lv_goto (tgt := 26) hx hb dX6_line_164 (by decide) ?_
                  exact ih_26 (k + 1) (lnM (lpM (lnM (lpM (lnM (lpM u 32) (nI k)) 64) (mD (md 0) (nI k) v)) 43) (absI ((mD (md 0) (nI k) v) - (mS (md 0) (nI k))))) (by omega) (by omega) (by simp only [lp_0, ln_0]; exact h0) (by rw [itr_s, hq]; simp only [lmS, lkM, lkB, hkA, eq_true c_10, eq_false c_33, eq_true c_44, eq_false c_54, eq_false c_118, eq_false c_141, not_false_eq_true, not_true_eq_false, and_true, true_and, and_false, false_and, and_self, ↓reduceIte, or_true, true_or, or_self, or_false, false_or]) ls _ _ hM hS (lv_sub hl [0, 3, 4] rfl)
              · skip
                refine lv_goto (tgt := 161) hx hb dX6_line_121 (by decide) ?_
                refine lv_iinc (v := (nI (k + 1))) (lv' := [(2, .int (nI (k + 1))), (4, .int ((mD (md 0) (nI k) v) - (mS (md 0) (nI k)))), (3, .int (mD (md 0) (nI k) v)), (0, .ref q), (1, .int v)]) hx hb dX6_line_161 hl (k := 2) rfl (k_inc1 _) (by decide) rfl (fun ls hl => ?_)
                refine lv_goto (tgt := 26) hx hb dX6_line_164 (by decide) ?_
                exact ih_26 (k + 1) (lnM (lpM (lnM (lpM u 32) (nI k)) 64) (mD (md 0) (nI k) v)) (by omega) (by omega) (by simp only [lp_0, ln_0]; exact h0) (by rw [itr_s, hq]; simp only [lmS, lkM, lkB, hkA, eq_true c_10, eq_false c_33, eq_true c_44, eq_false c_54, eq_true c_118, not_false_eq_true, not_true_eq_false, and_true, true_and, and_false, false_and, and_self, ↓reduceIte, or_true, true_or, or_self, or_false, false_or]) ls _ _ hM hS (lv_sub hl [0, 3, 4] rfl)
          · skip
            refine lv_goto (tgt := 161) hx hb dX6_line_47 (by decide) ?_
            refine lv_iinc (v := (nI (k + 1))) (lv' := [(2, .int (nI (k + 1))), (3, .int (mD (md 0) (nI k) v)), (0, .ref q), (1, .int v)]) hx hb dX6_line_161 hl (k := 1) rfl (k_inc1 _) (by decide) rfl (fun ls hl => ?_)
            refine lv_goto (tgt := 26) hx hb dX6_line_164 (by decide) ?_
            exact ih_26 (k + 1) u (by omega) (by omega) h0 (by rw [itr_s, hq]; simp only [lmS, lkM, lkB, eq_true c_10, eq_false c_33, eq_false c_44, not_false_eq_true, not_true_eq_false, and_true, true_and, and_false, false_and, and_self, ↓reduceIte, or_true, true_or, or_self, or_false, false_or]) ls _ _ hM hS (lv_sub hl [0, 2, 3] rfl)
    have z_2 : 0 = (nI 0) := rfl
    have hl := lv_chg (lv_sub hl [0, 1, 2] rfl) z_2
    exact lp_26 ((md 0 2).toNatClampNeg + 1) 0 (up2 (up2 md 7 19 0) 7 7 0) (by omega) (by omega) rfl rfl ls _ _ hM hS (lv_sub hl [0, 1, 2] rfl)
  · skip
    have c_10 := bI_eq.mp c_10
    refine lv_aload_n hx hb dX6_line_13 rfl (lv_at hl 0 rfl) ?_
    refine lv_iconst (v := 1) hx hb dX6_line_14 (by decide) ?_
    refine k_V1 (v := .int 0) hc [.int 1] cw_X6_61 rfl dX6_line_15 (c_X6_raises l hlf g _ q (up2 md 7 19 0) 1 hW) hW.o hM hS hl.1 rfl rfl ⟨Nat.le_of_ble_eq_true rfl, Nat.le_of_ble_eq_true rfl⟩ ⟨Nat.le_of_ble_eq_true rfl, Nat.le_of_ble_eq_true rfl⟩ (Nat.le_of_ble_eq_true rfl) (fun H locs hM hS => ?_)
    have hM := hR.eq hM putD_putD
    have hW := MdAt.put (g := g) (M := M) (m := q) (md := (up2 (up2 md 7 19 0) 7 19 1))
    exact k_iret hc hr dX6_line_18 hM hS (Nat.le_of_ble_eq_true rfl) (Nat.le_of_ble_eq_true rfl) (by first | (simp only [eq_false c_10, eq_self, bM_l, bM_r, rsM_l, rsM_r, seV_l, seV_r, snE_l, snE_r, up1_at, up1_up1, up2_up2, not_false_eq_true, not_true_eq_false, and_true, true_and, and_false, false_and, and_self, ↓reduceIte, or_true, true_or, or_self, or_false, false_or]; done) | (simp only [eq_false c_10, eq_self, bM_l, bM_r, rsM_l, rsM_r, seV_l, seV_r, snE_l, snE_r, up1_at, up1_up1, up2_up2, not_false_eq_true, not_true_eq_false, and_true, true_and, and_false, false_and, and_self, ↓reduceIte, or_true, true_or, or_self, or_false, false_or]; rfl))
