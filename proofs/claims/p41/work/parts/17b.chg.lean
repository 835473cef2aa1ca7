/-! the changes -/
set_option maxHeartbeats 4000000 in
set_option maxRecDepth 100000 in
theorem c_X5_stake (l : Launch) (hlf : l.stackTraces = false) (g : GC) (M : HM) (x : Nat) (cs : CS) (i : Int32) (hW : ClsAt g M x cs) (hn : nxOk cs) : KM g l yX5_stake cX5_stake 2 (some .int) 7 1 6 [.ref x, .int i] M (if ¬ rvC (dsO (cs 0) i) = -1 then .inl (some (.int (rvC (dsO (cs 0) i))), (putC g M x (kpS (rsC (bgS cs) (dsO (cs 0) i))))) else .inr ("java/lang/UnsupportedOperationException", (putC g M x (rsC (bgS cs) (dsO (cs 0) i))))) := by
  refine k_meth hlf (by decide) (Nat.le_of_ble_eq_true rfl) fun p e s m below meth c ls hc hr hnx hM hS hl => ?_
  have hc : Cx g p l s m [.ref x, .int i].toArray meth c cX5_stake 2 RX5 := hc
  have hx := hc.1
  have hb := hc.2.1
  have hl : lv_has ls 2 [(0, .ref x), (1, .int i)] := hl
  refine lv_aload_n hx hb dX5_stake_0 rfl (lv_at hl 0 rfl) ?_
  refine k_V0 hc [] cw_X5_63 rfl dX5_stake_1 (c_X5_begin l hlf g _ x cs hW) hW.o hM hS hl.1 rfl rfl ⟨Nat.le_of_ble_eq_true rfl, Nat.le_of_ble_eq_true rfl⟩ ⟨Nat.le_of_ble_eq_true rfl, Nat.le_of_ble_eq_true rfl⟩ (Nat.le_of_ble_eq_true rfl) (fun H locs hM hS => ?_)
  have hW := ClsAt.put (g := g) (M := M) (x := x) (cs := (bgS cs))
  refine lv_aload_n hx hb dX5_stake_4 rfl (lv_at hl 0 rfl) ?_
  refine lv_aload_n hx hb dX5_stake_5 rfl (lv_at hl 0 rfl) ?_
  refine lv_iload_n hx hb dX5_stake_6 rfl (lv_at hl 1 rfl) ?_
  refine k_V1 hc [.int i] cw_X5_66 rfl dX5_stake_7 (c_X5_driveStake l hlf g _ x (bgS cs) i hW) hW.o hM hS hl.1 rfl rfl ⟨Nat.le_of_ble_eq_true rfl, Nat.le_of_ble_eq_true rfl⟩ ⟨Nat.le_of_ble_eq_true rfl, Nat.le_of_ble_eq_true rfl⟩ (Nat.le_of_ble_eq_true rfl) (fun H locs hM hS => ?_)
  have hM := hR.eq hM putC_putC
  have hW := ClsAt.put (g := g) (M := M) (x := x) (cs := (rsC (bgS cs) (dsO ((bgS cs) 0) i)))
  by_cases q_10_0 : ¬ (rvC (dsO ((bgS cs) 0) i)) = -1
  rotate_left 1
  · skip
    have hK := c_X5_settle l hlf g _ x (rsC (bgS cs) (dsO ((bgS cs) 0) i)) (rvC (dsO ((bgS cs) 0) i)) hW (nxOk_of hn bg_6)
    rw [if_neg q_10_0] at hK
    refine k_VX hc [.int (rvC (dsO ((bgS cs) 0) i))] cw_X5_70 rfl dX5_stake_10 hK hW.o hM hS hl.1 rfl rfl ⟨Nat.le_of_ble_eq_true rfl, Nat.le_of_ble_eq_true rfl⟩ ⟨Nat.le_of_ble_eq_true rfl, Nat.le_of_ble_eq_true rfl⟩ (Nat.le_of_ble_eq_true rfl) (fun H locs q9 ce hM hS h1 h2 h3 => ?_)
    exact k_out hc hnx hM hS (Nat.le_of_ble_eq_true rfl) (Nat.le_of_ble_eq_true rfl) h1 h2 h3 (by first | exact if_neg q_10_0 | exact if_pos q_10_0)
  have hK := c_X5_settle l hlf g _ x (rsC (bgS cs) (dsO ((bgS cs) 0) i)) (rvC (dsO ((bgS cs) 0) i)) hW (nxOk_of hn bg_6)
  rw [if_pos q_10_0] at hK
  refine k_V1 hc [.int (rvC (dsO ((bgS cs) 0) i))] cw_X5_70 rfl dX5_stake_10 hK hW.o hM hS hl.1 rfl rfl ⟨Nat.le_of_ble_eq_true rfl, Nat.le_of_ble_eq_true rfl⟩ ⟨Nat.le_of_ble_eq_true rfl, Nat.le_of_ble_eq_true rfl⟩ (Nat.le_of_ble_eq_true rfl) (fun H locs hM hS => ?_)
  have hM := hR.eq hM putC_putC
  have hW := ClsAt.put (g := g) (M := M) (x := x) (cs := (kpS (rsC (bgS cs) (dsO ((bgS cs) 0) i))))
  exact k_iret hc hr dX5_stake_13 hM hS (Nat.le_of_ble_eq_true rfl) (Nat.le_of_ble_eq_true rfl) (by first | exact if_neg q_10_0 | exact if_pos q_10_0)
set_option maxHeartbeats 4000000 in
set_option maxRecDepth 100000 in
theorem c_X5_post (l : Launch) (hlf : l.stackTraces = false) (g : GC) (M : HM) (x : Nat) (cs : CS) (i : Int32) (j : Int32) (hW : ClsAt g M x cs) (hn : nxOk cs) : KM g l yX5_post cX5_post 3 (some .int) 7 1 6 [.ref x, .int i, .int j] M (if ¬ rvC (spO (cs 0) i j) = -1 then .inl (some (.int (rvC (spO (cs 0) i j))), (putC g M x (kpS (rsC (bgS cs) (spO (cs 0) i j))))) else .inr ("java/lang/UnsupportedOperationException", (putC g M x (rsC (bgS cs) (spO (cs 0) i j))))) := by
  refine k_meth hlf (by decide) (Nat.le_of_ble_eq_true rfl) fun p e s m below meth c ls hc hr hnx hM hS hl => ?_
  have hc : Cx g p l s m [.ref x, .int i, .int j].toArray meth c cX5_post 3 RX5 := hc
  have hx := hc.1
  have hb := hc.2.1
  have hl : lv_has ls 3 [(0, .ref x), (1, .int i), (2, .int j)] := hl
  refine lv_aload_n hx hb dX5_post_0 rfl (lv_at hl 0 rfl) ?_
  refine k_V0 hc [] cw_X5_63 rfl dX5_post_1 (c_X5_begin l hlf g _ x cs hW) hW.o hM hS hl.1 rfl rfl ⟨Nat.le_of_ble_eq_true rfl, Nat.le_of_ble_eq_true rfl⟩ ⟨Nat.le_of_ble_eq_true rfl, Nat.le_of_ble_eq_true rfl⟩ (Nat.le_of_ble_eq_true rfl) (fun H locs hM hS => ?_)
  have hW := ClsAt.put (g := g) (M := M) (x := x) (cs := (bgS cs))
  refine lv_aload_n hx hb dX5_post_4 rfl (lv_at hl 0 rfl) ?_
  refine lv_aload_n hx hb dX5_post_5 rfl (lv_at hl 0 rfl) ?_
  refine lv_iload_n hx hb dX5_post_6 rfl (lv_at hl 1 rfl) ?_
  refine lv_iload_n hx hb dX5_post_7 rfl (lv_at hl 2 rfl) ?_
  refine k_V1 hc [.int i, .int j] cw_X5_73 rfl dX5_post_8 (c_X5_setUpPost l hlf g _ x (bgS cs) i j hW) hW.o hM hS hl.1 rfl rfl ⟨Nat.le_of_ble_eq_true rfl, Nat.le_of_ble_eq_true rfl⟩ ⟨Nat.le_of_ble_eq_true rfl, Nat.le_of_ble_eq_true rfl⟩ (Nat.le_of_ble_eq_true rfl) (fun H locs hM hS => ?_)
  have hM := hR.eq hM putC_putC
  have hW := ClsAt.put (g := g) (M := M) (x := x) (cs := (rsC (bgS cs) (spO ((bgS cs) 0) i j)))
  by_cases q_11_0 : ¬ (rvC (spO ((bgS cs) 0) i j)) = -1
  rotate_left 1
  · skip
    have hK := c_X5_settle l hlf g _ x (rsC (bgS cs) (spO ((bgS cs) 0) i j)) (rvC (spO ((bgS cs) 0) i j)) hW (nxOk_of hn bg_6)
    rw [if_neg q_11_0] at hK
    refine k_VX hc [.int (rvC (spO ((bgS cs) 0) i j))] cw_X5_70 rfl dX5_post_11 hK hW.o hM hS hl.1 rfl rfl ⟨Nat.le_of_ble_eq_true rfl, Nat.le_of_ble_eq_true rfl⟩ ⟨Nat.le_of_ble_eq_true rfl, Nat.le_of_ble_eq_true rfl⟩ (Nat.le_of_ble_eq_true rfl) (fun H locs q9 ce hM hS h1 h2 h3 => ?_)
    exact k_out hc hnx hM hS (Nat.le_of_ble_eq_true rfl) (Nat.le_of_ble_eq_true rfl) h1 h2 h3 (by first | exact if_neg q_11_0 | exact if_pos q_11_0)
  have hK := c_X5_settle l hlf g _ x (rsC (bgS cs) (spO ((bgS cs) 0) i j)) (rvC (spO ((bgS cs) 0) i j)) hW (nxOk_of hn bg_6)
  rw [if_pos q_11_0] at hK
  refine k_V1 hc [.int (rvC (spO ((bgS cs) 0) i j))] cw_X5_70 rfl dX5_post_11 hK hW.o hM hS hl.1 rfl rfl ⟨Nat.le_of_ble_eq_true rfl, Nat.le_of_ble_eq_true rfl⟩ ⟨Nat.le_of_ble_eq_true rfl, Nat.le_of_ble_eq_true rfl⟩ (Nat.le_of_ble_eq_true rfl) (fun H locs hM hS => ?_)
  have hM := hR.eq hM putC_putC
  have hW := ClsAt.put (g := g) (M := M) (x := x) (cs := (kpS (rsC (bgS cs) (spO ((bgS cs) 0) i j))))
  exact k_iret hc hr dX5_post_14 hM hS (Nat.le_of_ble_eq_true rfl) (Nat.le_of_ble_eq_true rfl) (by first | exact if_neg q_11_0 | exact if_pos q_11_0)
set_option maxHeartbeats 4000000 in
set_option maxRecDepth 100000 in
theorem c_X5_sheet (l : Launch) (hlf : l.stackTraces = false) (g : GC) (M : HM) (x : Nat) (cs : CS) (hW : ClsAt g M x cs) (hn : nxOk cs) : KM g l yX5_sheet cX5_sheet 1 (some .int) 7 1 6 [.ref x] M (if ¬ rvC (asO (cs 0)) = -1 then .inl (some (.int (rvC (asO (cs 0)))), (putC g M x (kpS (rsC (bgS cs) (asO (cs 0)))))) else .inr ("java/lang/UnsupportedOperationException", (putC g M x (rsC (bgS cs) (asO (cs 0)))))) := by
  refine k_meth hlf (by decide) (Nat.le_of_ble_eq_true rfl) fun p e s m below meth c ls hc hr hnx hM hS hl => ?_
  have hc : Cx g p l s m [.ref x].toArray meth c cX5_sheet 1 RX5 := hc
  have hx := hc.1
  have hb := hc.2.1
  have hl : lv_has ls 1 [(0, .ref x)] := hl
  refine lv_aload_n hx hb dX5_sheet_0 rfl (lv_at hl 0 rfl) ?_
  refine k_V0 hc [] cw_X5_63 rfl dX5_sheet_1 (c_X5_begin l hlf g _ x cs hW) hW.o hM hS hl.1 rfl rfl ⟨Nat.le_of_ble_eq_true rfl, Nat.le_of_ble_eq_true rfl⟩ ⟨Nat.le_of_ble_eq_true rfl, Nat.le_of_ble_eq_true rfl⟩ (Nat.le_of_ble_eq_true rfl) (fun H locs hM hS => ?_)
  have hW := ClsAt.put (g := g) (M := M) (x := x) (cs := (bgS cs))
  refine lv_aload_n hx hb dX5_sheet_4 rfl (lv_at hl 0 rfl) ?_
  refine lv_aload_n hx hb dX5_sheet_5 rfl (lv_at hl 0 rfl) ?_
  refine k_V1 hc [] cw_X5_77 rfl dX5_sheet_6 (c_X5_addSheet l hlf g _ x (bgS cs) hW) hW.o hM hS hl.1 rfl rfl ⟨Nat.le_of_ble_eq_true rfl, Nat.le_of_ble_eq_true rfl⟩ ⟨Nat.le_of_ble_eq_true rfl, Nat.le_of_ble_eq_true rfl⟩ (Nat.le_of_ble_eq_true rfl) (fun H locs hM hS => ?_)
  have hM := hR.eq hM putC_putC
  have hW := ClsAt.put (g := g) (M := M) (x := x) (cs := (rsC (bgS cs) (asO ((bgS cs) 0))))
  by_cases q_9_0 : ¬ (rvC (asO ((bgS cs) 0))) = -1
  rotate_left 1
  · skip
    have hK := c_X5_settle l hlf g _ x (rsC (bgS cs) (asO ((bgS cs) 0))) (rvC (asO ((bgS cs) 0))) hW (nxOk_of hn bg_6)
    rw [if_neg q_9_0] at hK
    refine k_VX hc [.int (rvC (asO ((bgS cs) 0)))] cw_X5_70 rfl dX5_sheet_9 hK hW.o hM hS hl.1 rfl rfl ⟨Nat.le_of_ble_eq_true rfl, Nat.le_of_ble_eq_true rfl⟩ ⟨Nat.le_of_ble_eq_true rfl, Nat.le_of_ble_eq_true rfl⟩ (Nat.le_of_ble_eq_true rfl) (fun H locs q9 ce hM hS h1 h2 h3 => ?_)
    exact k_out hc hnx hM hS (Nat.le_of_ble_eq_true rfl) (Nat.le_of_ble_eq_true rfl) h1 h2 h3 (by first | exact if_neg q_9_0 | exact if_pos q_9_0)
  have hK := c_X5_settle l hlf g _ x (rsC (bgS cs) (asO ((bgS cs) 0))) (rvC (asO ((bgS cs) 0))) hW (nxOk_of hn bg_6)
  rw [if_pos q_9_0] at hK
  refine k_V1 hc [.int (rvC (asO ((bgS cs) 0)))] cw_X5_70 rfl dX5_sheet_9 hK hW.o hM hS hl.1 rfl rfl ⟨Nat.le_of_ble_eq_true rfl, Nat.le_of_ble_eq_true rfl⟩ ⟨Nat.le_of_ble_eq_true rfl, Nat.le_of_ble_eq_true rfl⟩ (Nat.le_of_ble_eq_true rfl) (fun H locs hM hS => ?_)
  have hM := hR.eq hM putC_putC
  have hW := ClsAt.put (g := g) (M := M) (x := x) (cs := (kpS (rsC (bgS cs) (asO ((bgS cs) 0)))))
  exact k_iret hc hr dX5_sheet_12 hM hS (Nat.le_of_ble_eq_true rfl) (Nat.le_of_ble_eq_true rfl) (by first | exact if_neg q_9_0 | exact if_pos q_9_0)
set_option maxHeartbeats 4000000 in
set_option maxRecDepth 100000 in
theorem c_X5_heat (l : Launch) (hlf : l.stackTraces = false) (g : GC) (M : HM) (x : Nat) (cs : CS) (i : Int32) (hW : ClsAt g M x cs) (hn : nxOk cs) : KM g l yX5_heat cX5_heat 2 (some .int) 7 1 6 [.ref x, .int i] M (if ¬ rvC (shO (cs 0) i) = -1 then .inl (some (.int (rvC (shO (cs 0) i))), (putC g M x (kpS (rsC (bgS cs) (shO (cs 0) i))))) else .inr ("java/lang/UnsupportedOperationException", (putC g M x (rsC (bgS cs) (shO (cs 0) i))))) := by
  refine k_meth hlf (by decide) (Nat.le_of_ble_eq_true rfl) fun p e s m below meth c ls hc hr hnx hM hS hl => ?_
  have hc : Cx g p l s m [.ref x, .int i].toArray meth c cX5_heat 2 RX5 := hc
  have hx := hc.1
  have hb := hc.2.1
  have hl : lv_has ls 2 [(0, .ref x), (1, .int i)] := hl
  refine lv_aload_n hx hb dX5_heat_0 rfl (lv_at hl 0 rfl) ?_
  refine k_V0 hc [] cw_X5_63 rfl dX5_heat_1 (c_X5_begin l hlf g _ x cs hW) hW.o hM hS hl.1 rfl rfl ⟨Nat.le_of_ble_eq_true rfl, Nat.le_of_ble_eq_true rfl⟩ ⟨Nat.le_of_ble_eq_true rfl, Nat.le_of_ble_eq_true rfl⟩ (Nat.le_of_ble_eq_true rfl) (fun H locs hM hS => ?_)
  have hW := ClsAt.put (g := g) (M := M) (x := x) (cs := (bgS cs))
  refine lv_aload_n hx hb dX5_heat_4 rfl (lv_at hl 0 rfl) ?_
  refine lv_aload_n hx hb dX5_heat_5 rfl (lv_at hl 0 rfl) ?_
  refine lv_iload_n hx hb dX5_heat_6 rfl (lv_at hl 1 rfl) ?_
  refine k_V1 hc [.int i] cw_X5_81 rfl dX5_heat_7 (c_X5_setDayHeat l hlf g _ x (bgS cs) i hW) hW.o hM hS hl.1 rfl rfl ⟨Nat.le_of_ble_eq_true rfl, Nat.le_of_ble_eq_true rfl⟩ ⟨Nat.le_of_ble_eq_true rfl, Nat.le_of_ble_eq_true rfl⟩ (Nat.le_of_ble_eq_true rfl) (fun H locs hM hS => ?_)
  have hM := hR.eq hM putC_putC
  have hW := ClsAt.put (g := g) (M := M) (x := x) (cs := (rsC (bgS cs) (shO ((bgS cs) 0) i)))
  by_cases q_10_0 : ¬ (rvC (shO ((bgS cs) 0) i)) = -1
  rotate_left 1
  · skip
    have hK := c_X5_settle l hlf g _ x (rsC (bgS cs) (shO ((bgS cs) 0) i)) (rvC (shO ((bgS cs) 0) i)) hW (nxOk_of hn bg_6)
    rw [if_neg q_10_0] at hK
    refine k_VX hc [.int (rvC (shO ((bgS cs) 0) i))] cw_X5_70 rfl dX5_heat_10 hK hW.o hM hS hl.1 rfl rfl ⟨Nat.le_of_ble_eq_true rfl, Nat.le_of_ble_eq_true rfl⟩ ⟨Nat.le_of_ble_eq_true rfl, Nat.le_of_ble_eq_true rfl⟩ (Nat.le_of_ble_eq_true rfl) (fun H locs q9 ce hM hS h1 h2 h3 => ?_)
    exact k_out hc hnx hM hS (Nat.le_of_ble_eq_true rfl) (Nat.le_of_ble_eq_true rfl) h1 h2 h3 (by first | exact if_neg q_10_0 | exact if_pos q_10_0)
  have hK := c_X5_settle l hlf g _ x (rsC (bgS cs) (shO ((bgS cs) 0) i)) (rvC (shO ((bgS cs) 0) i)) hW (nxOk_of hn bg_6)
  rw [if_pos q_10_0] at hK
  refine k_V1 hc [.int (rvC (shO ((bgS cs) 0) i))] cw_X5_70 rfl dX5_heat_10 hK hW.o hM hS hl.1 rfl rfl ⟨Nat.le_of_ble_eq_true rfl, Nat.le_of_ble_eq_true rfl⟩ ⟨Nat.le_of_ble_eq_true rfl, Nat.le_of_ble_eq_true rfl⟩ (Nat.le_of_ble_eq_true rfl) (fun H locs hM hS => ?_)
  have hM := hR.eq hM putC_putC
  have hW := ClsAt.put (g := g) (M := M) (x := x) (cs := (kpS (rsC (bgS cs) (shO ((bgS cs) 0) i))))
  exact k_iret hc hr dX5_heat_13 hM hS (Nat.le_of_ble_eq_true rfl) (Nat.le_of_ble_eq_true rfl) (by first | exact if_neg q_10_0 | exact if_pos q_10_0)
set_option maxHeartbeats 4000000 in
set_option maxRecDepth 100000 in
theorem c_X5_sight (l : Launch) (hlf : l.stackTraces = false) (g : GC) (M : HM) (x : Nat) (cs : CS) (i : Int32) (j : Int32) (o : Int32) (hW : ClsAt g M x cs) (hn : nxOk cs) : KM g l yX5_sight cX5_sight 4 (some .int) 9 1 6 [.ref x, .int i, .int j, .int o] M (if ¬ rvC (sgO (cs 0) i j o) = -1 then .inl (some (.int (rvC (sgO (cs 0) i j o))), (putC g M x (kpS (rsC (bgS cs) (sgO (cs 0) i j o))))) else .inr ("java/lang/UnsupportedOperationException", (putC g M x (rsC (bgS cs) (sgO (cs 0) i j o))))) := by
  refine k_meth hlf (by decide) (Nat.le_of_ble_eq_true rfl) fun p e s m below meth c ls hc hr hnx hM hS hl => ?_
  have hc : Cx g p l s m [.ref x, .int i, .int j, .int o].toArray meth c cX5_sight 4 RX5 := hc
  have hx := hc.1
  have hb := hc.2.1
  have hl : lv_has ls 4 [(0, .ref x), (1, .int i), (2, .int j), (3, .int o)] := hl
  refine lv_aload_n hx hb dX5_sight_0 rfl (lv_at hl 0 rfl) ?_
  refine k_V0 hc [] cw_X5_63 rfl dX5_sight_1 (c_X5_begin l hlf g _ x cs hW) hW.o hM hS hl.1 rfl rfl ⟨Nat.le_of_ble_eq_true rfl, Nat.le_of_ble_eq_true rfl⟩ ⟨Nat.le_of_ble_eq_true rfl, Nat.le_of_ble_eq_true rfl⟩ (Nat.le_of_ble_eq_true rfl) (fun H locs hM hS => ?_)
  have hW := ClsAt.put (g := g) (M := M) (x := x) (cs := (bgS cs))
  refine lv_aload_n hx hb dX5_sight_4 rfl (lv_at hl 0 rfl) ?_
  refine lv_aload_n hx hb dX5_sight_5 rfl (lv_at hl 0 rfl) ?_
  refine lv_iload_n hx hb dX5_sight_6 rfl (lv_at hl 1 rfl) ?_
  refine lv_iload_n hx hb dX5_sight_7 rfl (lv_at hl 2 rfl) ?_
  refine lv_iload_n hx hb dX5_sight_8 rfl (lv_at hl 3 rfl) ?_
  refine k_V1 hc [.int i, .int j, .int o] cw_X5_84 rfl dX5_sight_9 (c_X5_drawSighted l hlf g _ x (bgS cs) i j o hW) hW.o hM hS hl.1 rfl rfl ⟨Nat.le_of_ble_eq_true rfl, Nat.le_of_ble_eq_true rfl⟩ ⟨Nat.le_of_ble_eq_true rfl, Nat.le_of_ble_eq_true rfl⟩ (Nat.le_of_ble_eq_true rfl) (fun H locs hM hS => ?_)
  have hM := hR.eq hM putC_putC
  have hW := ClsAt.put (g := g) (M := M) (x := x) (cs := (rsC (bgS cs) (sgO ((bgS cs) 0) i j o)))
  by_cases q_12_0 : ¬ (rvC (sgO ((bgS cs) 0) i j o)) = -1
  rotate_left 1
  · skip
    have hK := c_X5_settle l hlf g _ x (rsC (bgS cs) (sgO ((bgS cs) 0) i j o)) (rvC (sgO ((bgS cs) 0) i j o)) hW (nxOk_of hn bg_6)
    rw [if_neg q_12_0] at hK
    refine k_VX hc [.int (rvC (sgO ((bgS cs) 0) i j o))] cw_X5_70 rfl dX5_sight_12 hK hW.o hM hS hl.1 rfl rfl ⟨Nat.le_of_ble_eq_true rfl, Nat.le_of_ble_eq_true rfl⟩ ⟨Nat.le_of_ble_eq_true rfl, Nat.le_of_ble_eq_true rfl⟩ (Nat.le_of_ble_eq_true rfl) (fun H locs q9 ce hM hS h1 h2 h3 => ?_)
    exact k_out hc hnx hM hS (Nat.le_of_ble_eq_true rfl) (Nat.le_of_ble_eq_true rfl) h1 h2 h3 (by first | exact if_neg q_12_0 | exact if_pos q_12_0)
  have hK := c_X5_settle l hlf g _ x (rsC (bgS cs) (sgO ((bgS cs) 0) i j o)) (rvC (sgO ((bgS cs) 0) i j o)) hW (nxOk_of hn bg_6)
  rw [if_pos q_12_0] at hK
  refine k_V1 hc [.int (rvC (sgO ((bgS cs) 0) i j o))] cw_X5_70 rfl dX5_sight_12 hK hW.o hM hS hl.1 rfl rfl ⟨Nat.le_of_ble_eq_true rfl, Nat.le_of_ble_eq_true rfl⟩ ⟨Nat.le_of_ble_eq_true rfl, Nat.le_of_ble_eq_true rfl⟩ (Nat.le_of_ble_eq_true rfl) (fun H locs hM hS => ?_)
  have hM := hR.eq hM putC_putC
  have hW := ClsAt.put (g := g) (M := M) (x := x) (cs := (kpS (rsC (bgS cs) (sgO ((bgS cs) 0) i j o))))
  exact k_iret hc hr dX5_sight_15 hM hS (Nat.le_of_ble_eq_true rfl) (Nat.le_of_ble_eq_true rfl) (by first | exact if_neg q_12_0 | exact if_pos q_12_0)
set_option maxHeartbeats 4000000 in
set_option maxRecDepth 100000 in
theorem c_X5_erase (l : Launch) (hlf : l.stackTraces = false) (g : GC) (M : HM) (x : Nat) (cs : CS) (i : Int32) (j : Int32) (hW : ClsAt g M x cs) (hn : nxOk cs) : KM g l yX5_erase cX5_erase 3 (some .int) 7 1 6 [.ref x, .int i, .int j] M (if ¬ rvC (erO (cs 0) i j) = -1 then .inl (some (.int (rvC (erO (cs 0) i j))), (putC g M x (kpS (rsC (bgS cs) (erO (cs 0) i j))))) else .inr ("java/lang/UnsupportedOperationException", (putC g M x (rsC (bgS cs) (erO (cs 0) i j))))) := by
  refine k_meth hlf (by decide) (Nat.le_of_ble_eq_true rfl) fun p e s m below meth c ls hc hr hnx hM hS hl => ?_
  have hc : Cx g p l s m [.ref x, .int i, .int j].toArray meth c cX5_erase 3 RX5 := hc
  have hx := hc.1
  have hb := hc.2.1
  have hl : lv_has ls 3 [(0, .ref x), (1, .int i), (2, .int j)] := hl
  refine lv_aload_n hx hb dX5_erase_0 rfl (lv_at hl 0 rfl) ?_
  refine k_V0 hc [] cw_X5_63 rfl dX5_erase_1 (c_X5_begin l hlf g _ x cs hW) hW.o hM hS hl.1 rfl rfl ⟨Nat.le_of_ble_eq_true rfl, Nat.le_of_ble_eq_true rfl⟩ ⟨Nat.le_of_ble_eq_true rfl, Nat.le_of_ble_eq_true rfl⟩ (Nat.le_of_ble_eq_true rfl) (fun H locs hM hS => ?_)
  have hW := ClsAt.put (g := g) (M := M) (x := x) (cs := (bgS cs))
  refine lv_aload_n hx hb dX5_erase_4 rfl (lv_at hl 0 rfl) ?_
  refine lv_aload_n hx hb dX5_erase_5 rfl (lv_at hl 0 rfl) ?_
  refine lv_iload_n hx hb dX5_erase_6 rfl (lv_at hl 1 rfl) ?_
  refine lv_iload_n hx hb dX5_erase_7 rfl (lv_at hl 2 rfl) ?_
  refine k_V1 hc [.int i, .int j] cw_X5_88 rfl dX5_erase_8 (c_X5_eraseDrawn l hlf g _ x (bgS cs) i j hW) hW.o hM hS hl.1 rfl rfl ⟨Nat.le_of_ble_eq_true rfl, Nat.le_of_ble_eq_true rfl⟩ ⟨Nat.le_of_ble_eq_true rfl, Nat.le_of_ble_eq_true rfl⟩ (Nat.le_of_ble_eq_true rfl) (fun H locs hM hS => ?_)
  have hM := hR.eq hM putC_putC
  have hW := ClsAt.put (g := g) (M := M) (x := x) (cs := (rsC (bgS cs) (erO ((bgS cs) 0) i j)))
  by_cases q_11_0 : ¬ (rvC (erO ((bgS cs) 0) i j)) = -1
  rotate_left 1
  · skip
    have hK := c_X5_settle l hlf g _ x (rsC (bgS cs) (erO ((bgS cs) 0) i j)) (rvC (erO ((bgS cs) 0) i j)) hW (nxOk_of hn bg_6)
    rw [if_neg q_11_0] at hK
    refine k_VX hc [.int (rvC (erO ((bgS cs) 0) i j))] cw_X5_70 rfl dX5_erase_11 hK hW.o hM hS hl.1 rfl rfl ⟨Nat.le_of_ble_eq_true rfl, Nat.le_of_ble_eq_true rfl⟩ ⟨Nat.le_of_ble_eq_true rfl, Nat.le_of_ble_eq_true rfl⟩ (Nat.le_of_ble_eq_true rfl) (fun H locs q9 ce hM hS h1 h2 h3 => ?_)
    exact k_out hc hnx hM hS (Nat.le_of_ble_eq_true rfl) (Nat.le_of_ble_eq_true rfl) h1 h2 h3 (by first | exact if_neg q_11_0 | exact if_pos q_11_0)
  have hK := c_X5_settle l hlf g _ x (rsC (bgS cs) (erO ((bgS cs) 0) i j)) (rvC (erO ((bgS cs) 0) i j)) hW (nxOk_of hn bg_6)
  rw [if_pos q_11_0] at hK
  refine k_V1 hc [.int (rvC (erO ((bgS cs) 0) i j))] cw_X5_70 rfl dX5_erase_11 hK hW.o hM hS hl.1 rfl rfl ⟨Nat.le_of_ble_eq_true rfl, Nat.le_of_ble_eq_true rfl⟩ ⟨Nat.le_of_ble_eq_true rfl, Nat.le_of_ble_eq_true rfl⟩ (Nat.le_of_ble_eq_true rfl) (fun H locs hM hS => ?_)
  have hM := hR.eq hM putC_putC
  have hW := ClsAt.put (g := g) (M := M) (x := x) (cs := (kpS (rsC (bgS cs) (erO ((bgS cs) 0) i j))))
  exact k_iret hc hr dX5_erase_14 hM hS (Nat.le_of_ble_eq_true rfl) (Nat.le_of_ble_eq_true rfl) (by first | exact if_neg q_11_0 | exact if_pos q_11_0)
set_option maxHeartbeats 4000000 in
set_option maxRecDepth 100000 in
theorem c_X5_camel (l : Launch) (hlf : l.stackTraces = false) (g : GC) (M : HM) (x : Nat) (cs : CS) (i : Int32) (hW : ClsAt g M x cs) (hn : nxOk cs) : KM g l yX5_camel cX5_camel 2 (some .int) 7 1 6 [.ref x, .int i] M (if ¬ rvC (caO (cs 0) i) = -1 then .inl (some (.int (rvC (caO (cs 0) i))), (putC g M x (kpS (rsC (bgS cs) (caO (cs 0) i))))) else .inr ("java/lang/UnsupportedOperationException", (putC g M x (rsC (bgS cs) (caO (cs 0) i))))) := by
  refine k_meth hlf (by decide) (Nat.le_of_ble_eq_true rfl) fun p e s m below meth c ls hc hr hnx hM hS hl => ?_
  have hc : Cx g p l s m [.ref x, .int i].toArray meth c cX5_camel 2 RX5 := hc
  have hx := hc.1
  have hb := hc.2.1
  have hl : lv_has ls 2 [(0, .ref x), (1, .int i)] := hl
  refine lv_aload_n hx hb dX5_camel_0 rfl (lv_at hl 0 rfl) ?_
  refine k_V0 hc [] cw_X5_63 rfl dX5_camel_1 (c_X5_begin l hlf g _ x cs hW) hW.o hM hS hl.1 rfl rfl ⟨Nat.le_of_ble_eq_true rfl, Nat.le_of_ble_eq_true rfl⟩ ⟨Nat.le_of_ble_eq_true rfl, Nat.le_of_ble_eq_true rfl⟩ (Nat.le_of_ble_eq_true rfl) (fun H locs hM hS => ?_)
  have hW := ClsAt.put (g := g) (M := M) (x := x) (cs := (bgS cs))
  refine lv_aload_n hx hb dX5_camel_4 rfl (lv_at hl 0 rfl) ?_
  refine lv_aload_n hx hb dX5_camel_5 rfl (lv_at hl 0 rfl) ?_
  refine lv_iload_n hx hb dX5_camel_6 rfl (lv_at hl 1 rfl) ?_
  refine k_V1 hc [.int i] cw_X5_91 rfl dX5_camel_7 (c_X5_bringCamel l hlf g _ x (bgS cs) i hW) hW.o hM hS hl.1 rfl rfl ⟨Nat.le_of_ble_eq_true rfl, Nat.le_of_ble_eq_true rfl⟩ ⟨Nat.le_of_ble_eq_true rfl, Nat.le_of_ble_eq_true rfl⟩ (Nat.le_of_ble_eq_true rfl) (fun H locs hM hS => ?_)
  have hM := hR.eq hM putC_putC
  have hW := ClsAt.put (g := g) (M := M) (x := x) (cs := (rsC (bgS cs) (caO ((bgS cs) 0) i)))
  by_cases q_10_0 : ¬ (rvC (caO ((bgS cs) 0) i)) = -1
  rotate_left 1
  · skip
    have hK := c_X5_settle l hlf g _ x (rsC (bgS cs) (caO ((bgS cs) 0) i)) (rvC (caO ((bgS cs) 0) i)) hW (nxOk_of hn bg_6)
    rw [if_neg q_10_0] at hK
    refine k_VX hc [.int (rvC (caO ((bgS cs) 0) i))] cw_X5_70 rfl dX5_camel_10 hK hW.o hM hS hl.1 rfl rfl ⟨Nat.le_of_ble_eq_true rfl, Nat.le_of_ble_eq_true rfl⟩ ⟨Nat.le_of_ble_eq_true rfl, Nat.le_of_ble_eq_true rfl⟩ (Nat.le_of_ble_eq_true rfl) (fun H locs q9 ce hM hS h1 h2 h3 => ?_)
    exact k_out hc hnx hM hS (Nat.le_of_ble_eq_true rfl) (Nat.le_of_ble_eq_true rfl) h1 h2 h3 (by first | exact if_neg q_10_0 | exact if_pos q_10_0)
  have hK := c_X5_settle l hlf g _ x (rsC (bgS cs) (caO ((bgS cs) 0) i)) (rvC (caO ((bgS cs) 0) i)) hW (nxOk_of hn bg_6)
  rw [if_pos q_10_0] at hK
  refine k_V1 hc [.int (rvC (caO ((bgS cs) 0) i))] cw_X5_70 rfl dX5_camel_10 hK hW.o hM hS hl.1 rfl rfl ⟨Nat.le_of_ble_eq_true rfl, Nat.le_of_ble_eq_true rfl⟩ ⟨Nat.le_of_ble_eq_true rfl, Nat.le_of_ble_eq_true rfl⟩ (Nat.le_of_ble_eq_true rfl) (fun H locs hM hS => ?_)
  have hM := hR.eq hM putC_putC
  have hW := ClsAt.put (g := g) (M := M) (x := x) (cs := (kpS (rsC (bgS cs) (caO ((bgS cs) 0) i))))
  exact k_iret hc hr dX5_camel_13 hM hS (Nat.le_of_ble_eq_true rfl) (Nat.le_of_ble_eq_true rfl) (by first | exact if_neg q_10_0 | exact if_pos q_10_0)
set_option maxHeartbeats 4000000 in
set_option maxRecDepth 100000 in
theorem c_X5_bell (l : Launch) (hlf : l.stackTraces = false) (g : GC) (M : HM) (x : Nat) (cs : CS) (i : Int32) (hW : ClsAt g M x cs) (hn : nxOk cs) : KM g l yX5_bell cX5_bell 2 (some .int) 7 1 6 [.ref x, .int i] M (if ¬ rvC (rbO (cs 0) i) = -1 then .inl (some (.int (rvC (rbO (cs 0) i))), (putC g M x (kpS (rsC (bgS cs) (rbO (cs 0) i))))) else .inr ("java/lang/UnsupportedOperationException", (putC g M x (rsC (bgS cs) (rbO (cs 0) i))))) := by
  refine k_meth hlf (by decide) (Nat.le_of_ble_eq_true rfl) fun p e s m below meth c ls hc hr hnx hM hS hl => ?_
  have hc : Cx g p l s m [.ref x, .int i].toArray meth c cX5_bell 2 RX5 := hc
  have hx := hc.1
  have hb := hc.2.1
  have hl : lv_has ls 2 [(0, .ref x), (1, .int i)] := hl
  refine lv_aload_n hx hb dX5_bell_0 rfl (lv_at hl 0 rfl) ?_
  refine k_V0 hc [] cw_X5_63 rfl dX5_bell_1 (c_X5_begin l hlf g _ x cs hW) hW.o hM hS hl.1 rfl rfl ⟨Nat.le_of_ble_eq_true rfl, Nat.le_of_ble_eq_true rfl⟩ ⟨Nat.le_of_ble_eq_true rfl, Nat.le_of_ble_eq_true rfl⟩ (Nat.le_of_ble_eq_true rfl) (fun H locs hM hS => ?_)
  have hW := ClsAt.put (g := g) (M := M) (x := x) (cs := (bgS cs))
  refine lv_aload_n hx hb dX5_bell_4 rfl (lv_at hl 0 rfl) ?_
  refine lv_aload_n hx hb dX5_bell_5 rfl (lv_at hl 0 rfl) ?_
  refine lv_iload_n hx hb dX5_bell_6 rfl (lv_at hl 1 rfl) ?_
  refine k_V1 hc [.int i] cw_X5_94 rfl dX5_bell_7 (c_X5_ringBell l hlf g _ x (bgS cs) i hW) hW.o hM hS hl.1 rfl rfl ⟨Nat.le_of_ble_eq_true rfl, Nat.le_of_ble_eq_true rfl⟩ ⟨Nat.le_of_ble_eq_true rfl, Nat.le_of_ble_eq_true rfl⟩ (Nat.le_of_ble_eq_true rfl) (fun H locs hM hS => ?_)
  have hM := hR.eq hM putC_putC
  have hW := ClsAt.put (g := g) (M := M) (x := x) (cs := (rsC (bgS cs) (rbO ((bgS cs) 0) i)))
  by_cases q_10_0 : ¬ (rvC (rbO ((bgS cs) 0) i)) = -1
  rotate_left 1
  · skip
    have hK := c_X5_settle l hlf g _ x (rsC (bgS cs) (rbO ((bgS cs) 0) i)) (rvC (rbO ((bgS cs) 0) i)) hW (nxOk_of hn bg_6)
    rw [if_neg q_10_0] at hK
    refine k_VX hc [.int (rvC (rbO ((bgS cs) 0) i))] cw_X5_70 rfl dX5_bell_10 hK hW.o hM hS hl.1 rfl rfl ⟨Nat.le_of_ble_eq_true rfl, Nat.le_of_ble_eq_true rfl⟩ ⟨Nat.le_of_ble_eq_true rfl, Nat.le_of_ble_eq_true rfl⟩ (Nat.le_of_ble_eq_true rfl) (fun H locs q9 ce hM hS h1 h2 h3 => ?_)
    exact k_out hc hnx hM hS (Nat.le_of_ble_eq_true rfl) (Nat.le_of_ble_eq_true rfl) h1 h2 h3 (by first | exact if_neg q_10_0 | exact if_pos q_10_0)
  have hK := c_X5_settle l hlf g _ x (rsC (bgS cs) (rbO ((bgS cs) 0) i)) (rvC (rbO ((bgS cs) 0) i)) hW (nxOk_of hn bg_6)
  rw [if_pos q_10_0] at hK
  refine k_V1 hc [.int (rvC (rbO ((bgS cs) 0) i))] cw_X5_70 rfl dX5_bell_10 hK hW.o hM hS hl.1 rfl rfl ⟨Nat.le_of_ble_eq_true rfl, Nat.le_of_ble_eq_true rfl⟩ ⟨Nat.le_of_ble_eq_true rfl, Nat.le_of_ble_eq_true rfl⟩ (Nat.le_of_ble_eq_true rfl) (fun H locs hM hS => ?_)
  have hM := hR.eq hM putC_putC
  have hW := ClsAt.put (g := g) (M := M) (x := x) (cs := (kpS (rsC (bgS cs) (rbO ((bgS cs) 0) i))))
  exact k_iret hc hr dX5_bell_13 hM hS (Nat.le_of_ble_eq_true rfl) (Nat.le_of_ble_eq_true rfl) (by first | exact if_neg q_10_0 | exact if_pos q_10_0)
set_option maxHeartbeats 4000000 in
set_option maxRecDepth 100000 in
theorem c_X5_tie (l : Launch) (hlf : l.stackTraces = false) (g : GC) (M : HM) (x : Nat) (cs : CS) (i : Int32) (hW : ClsAt g M x cs) (hn : nxOk cs) : KM g l yX5_tie cX5_tie 2 (some .int) 7 1 6 [.ref x, .int i] M (if ¬ rvC (tiO (cs 0) i) = -1 then .inl (some (.int (rvC (tiO (cs 0) i))), (putC g M x (kpS (rsC (bgS cs) (tiO (cs 0) i))))) else .inr ("java/lang/UnsupportedOperationException", (putC g M x (rsC (bgS cs) (tiO (cs 0) i))))) := by
  refine k_meth hlf (by decide) (Nat.le_of_ble_eq_true rfl) fun p e s m below meth c ls hc hr hnx hM hS hl => ?_
  have hc : Cx g p l s m [.ref x, .int i].toArray meth c cX5_tie 2 RX5 := hc
  have hx := hc.1
  have hb := hc.2.1
  have hl : lv_has ls 2 [(0, .ref x), (1, .int i)] := hl
  refine lv_aload_n hx hb dX5_tie_0 rfl (lv_at hl 0 rfl) ?_
  refine k_V0 hc [] cw_X5_63 rfl dX5_tie_1 (c_X5_begin l hlf g _ x cs hW) hW.o hM hS hl.1 rfl rfl ⟨Nat.le_of_ble_eq_true rfl, Nat.le_of_ble_eq_true rfl⟩ ⟨Nat.le_of_ble_eq_true rfl, Nat.le_of_ble_eq_true rfl⟩ (Nat.le_of_ble_eq_true rfl) (fun H locs hM hS => ?_)
  have hW := ClsAt.put (g := g) (M := M) (x := x) (cs := (bgS cs))
  refine lv_aload_n hx hb dX5_tie_4 rfl (lv_at hl 0 rfl) ?_
  refine lv_aload_n hx hb dX5_tie_5 rfl (lv_at hl 0 rfl) ?_
  refine lv_iload_n hx hb dX5_tie_6 rfl (lv_at hl 1 rfl) ?_
  refine k_V1 hc [.int i] cw_X5_97 rfl dX5_tie_7 (c_X5_tieCamel l hlf g _ x (bgS cs) i hW) hW.o hM hS hl.1 rfl rfl ⟨Nat.le_of_ble_eq_true rfl, Nat.le_of_ble_eq_true rfl⟩ ⟨Nat.le_of_ble_eq_true rfl, Nat.le_of_ble_eq_true rfl⟩ (Nat.le_of_ble_eq_true rfl) (fun H locs hM hS => ?_)
  have hM := hR.eq hM putC_putC
  have hW := ClsAt.put (g := g) (M := M) (x := x) (cs := (rsC (bgS cs) (tiO ((bgS cs) 0) i)))
  by_cases q_10_0 : ¬ (rvC (tiO ((bgS cs) 0) i)) = -1
  rotate_left 1
  · skip
    have hK := c_X5_settle l hlf g _ x (rsC (bgS cs) (tiO ((bgS cs) 0) i)) (rvC (tiO ((bgS cs) 0) i)) hW (nxOk_of hn bg_6)
    rw [if_neg q_10_0] at hK
    refine k_VX hc [.int (rvC (tiO ((bgS cs) 0) i))] cw_X5_70 rfl dX5_tie_10 hK hW.o hM hS hl.1 rfl rfl ⟨Nat.le_of_ble_eq_true rfl, Nat.le_of_ble_eq_true rfl⟩ ⟨Nat.le_of_ble_eq_true rfl, Nat.le_of_ble_eq_true rfl⟩ (Nat.le_of_ble_eq_true rfl) (fun H locs q9 ce hM hS h1 h2 h3 => ?_)
    exact k_out hc hnx hM hS (Nat.le_of_ble_eq_true rfl) (Nat.le_of_ble_eq_true rfl) h1 h2 h3 (by first | exact if_neg q_10_0 | exact if_pos q_10_0)
  have hK := c_X5_settle l hlf g _ x (rsC (bgS cs) (tiO ((bgS cs) 0) i)) (rvC (tiO ((bgS cs) 0) i)) hW (nxOk_of hn bg_6)
  rw [if_pos q_10_0] at hK
  refine k_V1 hc [.int (rvC (tiO ((bgS cs) 0) i))] cw_X5_70 rfl dX5_tie_10 hK hW.o hM hS hl.1 rfl rfl ⟨Nat.le_of_ble_eq_true rfl, Nat.le_of_ble_eq_true rfl⟩ ⟨Nat.le_of_ble_eq_true rfl, Nat.le_of_ble_eq_true rfl⟩ (Nat.le_of_ble_eq_true rfl) (fun H locs hM hS => ?_)
  have hM := hR.eq hM putC_putC
  have hW := ClsAt.put (g := g) (M := M) (x := x) (cs := (kpS (rsC (bgS cs) (tiO ((bgS cs) 0) i))))
  exact k_iret hc hr dX5_tie_13 hM hS (Nat.le_of_ble_eq_true rfl) (Nat.le_of_ble_eq_true rfl) (by first | exact if_neg q_10_0 | exact if_pos q_10_0)
set_option maxHeartbeats 4000000 in
set_option maxRecDepth 100000 in
theorem c_X5_loose (l : Launch) (hlf : l.stackTraces = false) (g : GC) (M : HM) (x : Nat) (cs : CS) (i : Int32) (hW : ClsAt g M x cs) (hn : nxOk cs) : KM g l yX5_loose cX5_loose 2 (some .int) 7 1 6 [.ref x, .int i] M (if ¬ rvC (loO (cs 0) i) = -1 then .inl (some (.int (rvC (loO (cs 0) i))), (putC g M x (kpS (rsC (bgS cs) (loO (cs 0) i))))) else .inr ("java/lang/UnsupportedOperationException", (putC g M x (rsC (bgS cs) (loO (cs 0) i))))) := by
  refine k_meth hlf (by decide) (Nat.le_of_ble_eq_true rfl) fun p e s m below meth c ls hc hr hnx hM hS hl => ?_
  have hc : Cx g p l s m [.ref x, .int i].toArray meth c cX5_loose 2 RX5 := hc
  have hx := hc.1
  have hb := hc.2.1
  have hl : lv_has ls 2 [(0, .ref x), (1, .int i)] := hl
  refine lv_aload_n hx hb dX5_loose_0 rfl (lv_at hl 0 rfl) ?_
  refine k_V0 hc [] cw_X5_63 rfl dX5_loose_1 (c_X5_begin l hlf g _ x cs hW) hW.o hM hS hl.1 rfl rfl ⟨Nat.le_of_ble_eq_true rfl, Nat.le_of_ble_eq_true rfl⟩ ⟨Nat.le_of_ble_eq_true rfl, Nat.le_of_ble_eq_true rfl⟩ (Nat.le_of_ble_eq_true rfl) (fun H locs hM hS => ?_)
  have hW := ClsAt.put (g := g) (M := M) (x := x) (cs := (bgS cs))
  refine lv_aload_n hx hb dX5_loose_4 rfl (lv_at hl 0 rfl) ?_
  refine lv_aload_n hx hb dX5_loose_5 rfl (lv_at hl 0 rfl) ?_
  refine lv_iload_n hx hb dX5_loose_6 rfl (lv_at hl 1 rfl) ?_
  refine k_V1 hc [.int i] cw_X5_100 rfl dX5_loose_7 (c_X5_loosenCamel l hlf g _ x (bgS cs) i hW) hW.o hM hS hl.1 rfl rfl ⟨Nat.le_of_ble_eq_true rfl, Nat.le_of_ble_eq_true rfl⟩ ⟨Nat.le_of_ble_eq_true rfl, Nat.le_of_ble_eq_true rfl⟩ (Nat.le_of_ble_eq_true rfl) (fun H locs hM hS => ?_)
  have hM := hR.eq hM putC_putC
  have hW := ClsAt.put (g := g) (M := M) (x := x) (cs := (rsC (bgS cs) (loO ((bgS cs) 0) i)))
  by_cases q_10_0 : ¬ (rvC (loO ((bgS cs) 0) i)) = -1
  rotate_left 1
  · skip
    have hK := c_X5_settle l hlf g _ x (rsC (bgS cs) (loO ((bgS cs) 0) i)) (rvC (loO ((bgS cs) 0) i)) hW (nxOk_of hn bg_6)
    rw [if_neg q_10_0] at hK
    refine k_VX hc [.int (rvC (loO ((bgS cs) 0) i))] cw_X5_70 rfl dX5_loose_10 hK hW.o hM hS hl.1 rfl rfl ⟨Nat.le_of_ble_eq_true rfl, Nat.le_of_ble_eq_true rfl⟩ ⟨Nat.le_of_ble_eq_true rfl, Nat.le_of_ble_eq_true rfl⟩ (Nat.le_of_ble_eq_true rfl) (fun H locs q9 ce hM hS h1 h2 h3 => ?_)
    exact k_out hc hnx hM hS (Nat.le_of_ble_eq_true rfl) (Nat.le_of_ble_eq_true rfl) h1 h2 h3 (by first | exact if_neg q_10_0 | exact if_pos q_10_0)
  have hK := c_X5_settle l hlf g _ x (rsC (bgS cs) (loO ((bgS cs) 0) i)) (rvC (loO ((bgS cs) 0) i)) hW (nxOk_of hn bg_6)
  rw [if_pos q_10_0] at hK
  refine k_V1 hc [.int (rvC (loO ((bgS cs) 0) i))] cw_X5_70 rfl dX5_loose_10 hK hW.o hM hS hl.1 rfl rfl ⟨Nat.le_of_ble_eq_true rfl, Nat.le_of_ble_eq_true rfl⟩ ⟨Nat.le_of_ble_eq_true rfl, Nat.le_of_ble_eq_true rfl⟩ (Nat.le_of_ble_eq_true rfl) (fun H locs hM hS => ?_)
  have hM := hR.eq hM putC_putC
  have hW := ClsAt.put (g := g) (M := M) (x := x) (cs := (kpS (rsC (bgS cs) (loO ((bgS cs) 0) i))))
  exact k_iret hc hr dX5_loose_13 hM hS (Nat.le_of_ble_eq_true rfl) (Nat.le_of_ble_eq_true rfl) (by first | exact if_neg q_10_0 | exact if_pos q_10_0)
set_option maxHeartbeats 4000000 in
set_option maxRecDepth 100000 in
theorem c_X5_drink (l : Launch) (hlf : l.stackTraces = false) (g : GC) (M : HM) (x : Nat) (cs : CS) (i : Int32) (hW : ClsAt g M x cs) (hn : nxOk cs) : KM g l yX5_drink cX5_drink 2 (some .int) 7 1 6 [.ref x, .int i] M (if ¬ rvC (wcO (cs 0) i) = -1 then .inl (some (.int (rvC (wcO (cs 0) i))), (putC g M x (kpS (rsC (bgS cs) (wcO (cs 0) i))))) else .inr ("java/lang/UnsupportedOperationException", (putC g M x (rsC (bgS cs) (wcO (cs 0) i))))) := by
  refine k_meth hlf (by decide) (Nat.le_of_ble_eq_true rfl) fun p e s m below meth c ls hc hr hnx hM hS hl => ?_
  have hc : Cx g p l s m [.ref x, .int i].toArray meth c cX5_drink 2 RX5 := hc
  have hx := hc.1
  have hb := hc.2.1
  have hl : lv_has ls 2 [(0, .ref x), (1, .int i)] := hl
  refine lv_aload_n hx hb dX5_drink_0 rfl (lv_at hl 0 rfl) ?_
  refine k_V0 hc [] cw_X5_63 rfl dX5_drink_1 (c_X5_begin l hlf g _ x cs hW) hW.o hM hS hl.1 rfl rfl ⟨Nat.le_of_ble_eq_true rfl, Nat.le_of_ble_eq_true rfl⟩ ⟨Nat.le_of_ble_eq_true rfl, Nat.le_of_ble_eq_true rfl⟩ (Nat.le_of_ble_eq_true rfl) (fun H locs hM hS => ?_)
  have hW := ClsAt.put (g := g) (M := M) (x := x) (cs := (bgS cs))
  refine lv_aload_n hx hb dX5_drink_4 rfl (lv_at hl 0 rfl) ?_
  refine lv_aload_n hx hb dX5_drink_5 rfl (lv_at hl 0 rfl) ?_
  refine lv_iload_n hx hb dX5_drink_6 rfl (lv_at hl 1 rfl) ?_
  refine k_V1 hc [.int i] cw_X5_103 rfl dX5_drink_7 (c_X5_waterCamel l hlf g _ x (bgS cs) i hW) hW.o hM hS hl.1 rfl rfl ⟨Nat.le_of_ble_eq_true rfl, Nat.le_of_ble_eq_true rfl⟩ ⟨Nat.le_of_ble_eq_true rfl, Nat.le_of_ble_eq_true rfl⟩ (Nat.le_of_ble_eq_true rfl) (fun H locs hM hS => ?_)
  have hM := hR.eq hM putC_putC
  have hW := ClsAt.put (g := g) (M := M) (x := x) (cs := (rsC (bgS cs) (wcO ((bgS cs) 0) i)))
  by_cases q_10_0 : ¬ (rvC (wcO ((bgS cs) 0) i)) = -1
  rotate_left 1
  · skip
    have hK := c_X5_settle l hlf g _ x (rsC (bgS cs) (wcO ((bgS cs) 0) i)) (rvC (wcO ((bgS cs) 0) i)) hW (nxOk_of hn bg_6)
    rw [if_neg q_10_0] at hK
    refine k_VX hc [.int (rvC (wcO ((bgS cs) 0) i))] cw_X5_70 rfl dX5_drink_10 hK hW.o hM hS hl.1 rfl rfl ⟨Nat.le_of_ble_eq_true rfl, Nat.le_of_ble_eq_true rfl⟩ ⟨Nat.le_of_ble_eq_true rfl, Nat.le_of_ble_eq_true rfl⟩ (Nat.le_of_ble_eq_true rfl) (fun H locs q9 ce hM hS h1 h2 h3 => ?_)
    exact k_out hc hnx hM hS (Nat.le_of_ble_eq_true rfl) (Nat.le_of_ble_eq_true rfl) h1 h2 h3 (by first | exact if_neg q_10_0 | exact if_pos q_10_0)
  have hK := c_X5_settle l hlf g _ x (rsC (bgS cs) (wcO ((bgS cs) 0) i)) (rvC (wcO ((bgS cs) 0) i)) hW (nxOk_of hn bg_6)
  rw [if_pos q_10_0] at hK
  refine k_V1 hc [.int (rvC (wcO ((bgS cs) 0) i))] cw_X5_70 rfl dX5_drink_10 hK hW.o hM hS hl.1 rfl rfl ⟨Nat.le_of_ble_eq_true rfl, Nat.le_of_ble_eq_true rfl⟩ ⟨Nat.le_of_ble_eq_true rfl, Nat.le_of_ble_eq_true rfl⟩ (Nat.le_of_ble_eq_true rfl) (fun H locs hM hS => ?_)
  have hM := hR.eq hM putC_putC
  have hW := ClsAt.put (g := g) (M := M) (x := x) (cs := (kpS (rsC (bgS cs) (wcO ((bgS cs) 0) i))))
  exact k_iret hc hr dX5_drink_13 hM hS (Nat.le_of_ble_eq_true rfl) (Nat.le_of_ble_eq_true rfl) (by first | exact if_neg q_10_0 | exact if_pos q_10_0)
set_option maxHeartbeats 4000000 in
set_option maxRecDepth 100000 in
theorem c_X5_water (l : Launch) (hlf : l.stackTraces = false) (g : GC) (M : HM) (x : Nat) (cs : CS) (i : Int32) (hW : ClsAt g M x cs) (hn : nxOk cs) : KM g l yX5_water cX5_water 2 (some .int) 7 1 6 [.ref x, .int i] M (if ¬ rvC (bwO (cs 0) i) = -1 then .inl (some (.int (rvC (bwO (cs 0) i))), (putC g M x (kpS (rsC (bgS cs) (bwO (cs 0) i))))) else .inr ("java/lang/UnsupportedOperationException", (putC g M x (rsC (bgS cs) (bwO (cs 0) i))))) := by
  refine k_meth hlf (by decide) (Nat.le_of_ble_eq_true rfl) fun p e s m below meth c ls hc hr hnx hM hS hl => ?_
  have hc : Cx g p l s m [.ref x, .int i].toArray meth c cX5_water 2 RX5 := hc
  have hx := hc.1
  have hb := hc.2.1
  have hl : lv_has ls 2 [(0, .ref x), (1, .int i)] := hl
  refine lv_aload_n hx hb dX5_water_0 rfl (lv_at hl 0 rfl) ?_
  refine k_V0 hc [] cw_X5_63 rfl dX5_water_1 (c_X5_begin l hlf g _ x cs hW) hW.o hM hS hl.1 rfl rfl ⟨Nat.le_of_ble_eq_true rfl, Nat.le_of_ble_eq_true rfl⟩ ⟨Nat.le_of_ble_eq_true rfl, Nat.le_of_ble_eq_true rfl⟩ (Nat.le_of_ble_eq_true rfl) (fun H locs hM hS => ?_)
  have hW := ClsAt.put (g := g) (M := M) (x := x) (cs := (bgS cs))
  refine lv_aload_n hx hb dX5_water_4 rfl (lv_at hl 0 rfl) ?_
  refine lv_aload_n hx hb dX5_water_5 rfl (lv_at hl 0 rfl) ?_
  refine lv_iload_n hx hb dX5_water_6 rfl (lv_at hl 1 rfl) ?_
  refine k_V1 hc [.int i] cw_X5_106 rfl dX5_water_7 (c_X5_bringWater l hlf g _ x (bgS cs) i hW) hW.o hM hS hl.1 rfl rfl ⟨Nat.le_of_ble_eq_true rfl, Nat.le_of_ble_eq_true rfl⟩ ⟨Nat.le_of_ble_eq_true rfl, Nat.le_of_ble_eq_true rfl⟩ (Nat.le_of_ble_eq_true rfl) (fun H locs hM hS => ?_)
  have hM := hR.eq hM putC_putC
  have hW := ClsAt.put (g := g) (M := M) (x := x) (cs := (rsC (bgS cs) (bwO ((bgS cs) 0) i)))
  by_cases q_10_0 : ¬ (rvC (bwO ((bgS cs) 0) i)) = -1
  rotate_left 1
  · skip
    have hK := c_X5_settle l hlf g _ x (rsC (bgS cs) (bwO ((bgS cs) 0) i)) (rvC (bwO ((bgS cs) 0) i)) hW (nxOk_of hn bg_6)
    rw [if_neg q_10_0] at hK
    refine k_VX hc [.int (rvC (bwO ((bgS cs) 0) i))] cw_X5_70 rfl dX5_water_10 hK hW.o hM hS hl.1 rfl rfl ⟨Nat.le_of_ble_eq_true rfl, Nat.le_of_ble_eq_true rfl⟩ ⟨Nat.le_of_ble_eq_true rfl, Nat.le_of_ble_eq_true rfl⟩ (Nat.le_of_ble_eq_true rfl) (fun H locs q9 ce hM hS h1 h2 h3 => ?_)
    exact k_out hc hnx hM hS (Nat.le_of_ble_eq_true rfl) (Nat.le_of_ble_eq_true rfl) h1 h2 h3 (by first | exact if_neg q_10_0 | exact if_pos q_10_0)
  have hK := c_X5_settle l hlf g _ x (rsC (bgS cs) (bwO ((bgS cs) 0) i)) (rvC (bwO ((bgS cs) 0) i)) hW (nxOk_of hn bg_6)
  rw [if_pos q_10_0] at hK
  refine k_V1 hc [.int (rvC (bwO ((bgS cs) 0) i))] cw_X5_70 rfl dX5_water_10 hK hW.o hM hS hl.1 rfl rfl ⟨Nat.le_of_ble_eq_true rfl, Nat.le_of_ble_eq_true rfl⟩ ⟨Nat.le_of_ble_eq_true rfl, Nat.le_of_ble_eq_true rfl⟩ (Nat.le_of_ble_eq_true rfl) (fun H locs hM hS => ?_)
  have hM := hR.eq hM putC_putC
  have hW := ClsAt.put (g := g) (M := M) (x := x) (cs := (kpS (rsC (bgS cs) (bwO ((bgS cs) 0) i))))
  exact k_iret hc hr dX5_water_13 hM hS (Nat.le_of_ble_eq_true rfl) (Nat.le_of_ble_eq_true rfl) (by first | exact if_neg q_10_0 | exact if_pos q_10_0)
set_option maxHeartbeats 4000000 in
set_option maxRecDepth 100000 in
theorem c_X5_hours (l : Launch) (hlf : l.stackTraces = false) (g : GC) (M : HM) (x : Nat) (cs : CS) (i : Int32) (hW : ClsAt g M x cs) (hn : nxOk cs) : KM g l yX5_hours cX5_hours 2 (some .int) 9 1 6 [.ref x, .int i] M (if ¬ rvC (phO (cs 0) i) = -1 then .inl (some (.int (rvC (phO (cs 0) i))), (putC g M x (kpS (rsC (bgS cs) (phO (cs 0) i))))) else .inr ("java/lang/UnsupportedOperationException", (putC g M x (rsC (bgS cs) (phO (cs 0) i))))) := by
  refine k_meth hlf (by decide) (Nat.le_of_ble_eq_true rfl) fun p e s m below meth c ls hc hr hnx hM hS hl => ?_
  have hc : Cx g p l s m [.ref x, .int i].toArray meth c cX5_hours 2 RX5 := hc
  have hx := hc.1
  have hb := hc.2.1
  have hl : lv_has ls 2 [(0, .ref x), (1, .int i)] := hl
  refine lv_aload_n hx hb dX5_hours_0 rfl (lv_at hl 0 rfl) ?_
  refine k_V0 hc [] cw_X5_63 rfl dX5_hours_1 (c_X5_begin l hlf g _ x cs hW) hW.o hM hS hl.1 rfl rfl ⟨Nat.le_of_ble_eq_true rfl, Nat.le_of_ble_eq_true rfl⟩ ⟨Nat.le_of_ble_eq_true rfl, Nat.le_of_ble_eq_true rfl⟩ (Nat.le_of_ble_eq_true rfl) (fun H locs hM hS => ?_)
  have hW := ClsAt.put (g := g) (M := M) (x := x) (cs := (bgS cs))
  refine lv_aload_n hx hb dX5_hours_4 rfl (lv_at hl 0 rfl) ?_
  refine lv_aload_n hx hb dX5_hours_5 rfl (lv_at hl 0 rfl) ?_
  refine lv_iload_n hx hb dX5_hours_6 rfl (lv_at hl 1 rfl) ?_
  refine k_V1 hc [.int i] cw_X5_109 rfl dX5_hours_7 (c_X5_passHours l hlf g _ x (bgS cs) i hW) hW.o hM hS hl.1 rfl rfl ⟨Nat.le_of_ble_eq_true rfl, Nat.le_of_ble_eq_true rfl⟩ ⟨Nat.le_of_ble_eq_true rfl, Nat.le_of_ble_eq_true rfl⟩ (Nat.le_of_ble_eq_true rfl) (fun H locs hM hS => ?_)
  have hM := hR.eq hM putC_putC
  have hW := ClsAt.put (g := g) (M := M) (x := x) (cs := (rsC (bgS cs) (phO ((bgS cs) 0) i)))
  by_cases q_10_0 : ¬ (rvC (phO ((bgS cs) 0) i)) = -1
  rotate_left 1
  · skip
    have hK := c_X5_settle l hlf g _ x (rsC (bgS cs) (phO ((bgS cs) 0) i)) (rvC (phO ((bgS cs) 0) i)) hW (nxOk_of hn bg_6)
    rw [if_neg q_10_0] at hK
    refine k_VX hc [.int (rvC (phO ((bgS cs) 0) i))] cw_X5_70 rfl dX5_hours_10 hK hW.o hM hS hl.1 rfl rfl ⟨Nat.le_of_ble_eq_true rfl, Nat.le_of_ble_eq_true rfl⟩ ⟨Nat.le_of_ble_eq_true rfl, Nat.le_of_ble_eq_true rfl⟩ (Nat.le_of_ble_eq_true rfl) (fun H locs q9 ce hM hS h1 h2 h3 => ?_)
    exact k_out hc hnx hM hS (Nat.le_of_ble_eq_true rfl) (Nat.le_of_ble_eq_true rfl) h1 h2 h3 (by first | exact if_neg q_10_0 | exact if_pos q_10_0)
  have hK := c_X5_settle l hlf g _ x (rsC (bgS cs) (phO ((bgS cs) 0) i)) (rvC (phO ((bgS cs) 0) i)) hW (nxOk_of hn bg_6)
  rw [if_pos q_10_0] at hK
  refine k_V1 hc [.int (rvC (phO ((bgS cs) 0) i))] cw_X5_70 rfl dX5_hours_10 hK hW.o hM hS hl.1 rfl rfl ⟨Nat.le_of_ble_eq_true rfl, Nat.le_of_ble_eq_true rfl⟩ ⟨Nat.le_of_ble_eq_true rfl, Nat.le_of_ble_eq_true rfl⟩ (Nat.le_of_ble_eq_true rfl) (fun H locs hM hS => ?_)
  have hM := hR.eq hM putC_putC
  have hW := ClsAt.put (g := g) (M := M) (x := x) (cs := (kpS (rsC (bgS cs) (phO ((bgS cs) 0) i))))
  exact k_iret hc hr dX5_hours_13 hM hS (Nat.le_of_ble_eq_true rfl) (Nat.le_of_ble_eq_true rfl) (by first | exact if_neg q_10_0 | exact if_pos q_10_0)
