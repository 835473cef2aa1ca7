/-! Line, Text -/
set_option maxHeartbeats 4000000 in
set_option maxRecDepth 100000 in
theorem c_X2_init (l : Launch) (hlf : l.stackTraces = false) (g : GC) (M : HM) (r : Nat) (hW : M r = some (.inr (4, [.null, .int 0]))) : KN g l yX2_init cX2_init 1 1 1 79 [.ref r] M (r + 1) (.inl (none, upM (upM M (r + 1) (.inl (gC g, 79, .inl (fun _ => 0)))) r (.inr (4, [.ref (r + 1), .int 0])))) := by
  refine k_ctor hlf (by decide) (Nat.le_of_ble_eq_true rfl) fun p e s m below meth c ls hc hr hin2 hnx hsz hM hS hl => ?_
  have hc : Cx g p l s m [.ref r].toArray meth c cX2_init 1 RX2 := hc
  have hin2 : meth.name = "<init>" := hin2
  have hx := hc.1
  have hb := hc.2.1
  have hl : lv_has ls 1 [(0, .ref r)] := hl
  refine lv_aload_n hx hb dX2_init_0 rfl (lv_at hl 0 rfl) ?_
  refine k_super hc q_X2_3 dX2_init_1 hl.1 ⟨Nat.le_of_ble_eq_true rfl, Nat.le_of_ble_eq_true rfl⟩ ?_
  refine lv_aload_n hx hb dX2_init_4 rfl (lv_at hl 0 rfl) ?_
  refine lv_bipush (v := nI 79) hx hb dX2_init_5 (by decide) ?_
  refine k_newaC hc (N' := 79) (by decide) (by decide) (by decide) dX2_init_7 hM hS (q := r + 1) (by omega) (by have := hS.1; omega) (Nat.le_of_ble_eq_true rfl) (Nat.le_of_ble_eq_true rfl) (fun H hM hS => ?_)
  refine pt_X2_9 hc hin2 dX2_init_9 hM hS (a := r) (fs := [.null, .int 0]) (by simp [upM, hW]) rfl rfl (Nat.le_of_ble_eq_true rfl) (fun H locs hM hS => ?_)
  refine lv_aload_n hx hb dX2_init_12 rfl (lv_at hl 0 rfl) ?_
  refine lv_iconst (v := 0) hx hb dX2_init_13 (by decide) ?_
  refine pt_X2_15 hc dX2_init_14 hM hS (a := r) (fs := [.ref (r + 1), .int 0]) (by simp [upM]) rfl rfl (Nat.le_of_ble_eq_true rfl) (fun H locs hM hS => ?_)
  exact k_vret hc hr dX2_init_17 (hM.eq (by funext q; by_cases h : q = r <;> simp [upM, h])) hS (Nat.le_of_ble_eq_true rfl) (Nat.le_of_ble_eq_true rfl) rfl
set_option maxHeartbeats 4000000 in
set_option maxRecDepth 100000 in
theorem c_X4_init (l : Launch) (hlf : l.stackTraces = false) (g : GC) (M : HM) (r : Nat) (hW : M r = some (.inr (6, [.null, .null, .int 0, .int 0, .int 0]))) : KN g l yX4_init cX4_init 1 2 3 200 [.ref r] M (r + 1) (.inl (none, upM (upM (putR g M (r + 1) 3 0 (fun _ => 0)) (r + 3) (.inl (gC g, 60, .inl (fun _ => 0)))) r (.inr (6, [.ref (r + 1), .ref (r + 3), .int 0, .int 0, .int 32])))) := by
  refine k_ctor hlf (by decide) (Nat.le_of_ble_eq_true rfl) fun p e s m below meth c ls hc hr hin2 hnx hsz hM hS hl => ?_
  have hc : Cx g p l s m [.ref r].toArray meth c cX4_init 1 RX4 := hc
  have hin2 : meth.name = "<init>" := hin2
  have hx := hc.1
  have hb := hc.2.1
  have hl : lv_has ls 1 [(0, .ref r)] := hl
  refine lv_aload_n hx hb dX4_init_0 rfl (lv_at hl 0 rfl) ?_
  refine k_super hc q_X4_3 dX4_init_1 hl.1 ⟨Nat.le_of_ble_eq_true rfl, Nat.le_of_ble_eq_true rfl⟩ ?_
  refine lv_aload_n hx hb dX4_init_4 rfl (lv_at hl 0 rfl) ?_
  refine k_mkRow hc hlf (n := 3) (w := 1) (q := r + 1) (by decide) (by decide) ql_X4_9 cw_X4_11 dX4_init_5 dX4_init_8 (fun H locs cells slots st k => lv_iconst (v := nI 3) hx hb dX4_init_9 (by decide) k) dX4_init_10 hM hS (by omega) (by have := hS.1; omega) hl.1 ⟨Nat.le_of_ble_eq_true rfl, Nat.le_of_ble_eq_true rfl⟩ (Nat.le_of_ble_eq_true rfl) (Nat.le_of_ble_eq_true rfl) (Nat.le_of_ble_eq_true rfl) (fun H locs hM hS hz => ?_)
  refine pt_X4_14 hc hin2 dX4_init_13 hM hS (a := r) (fs := [.null, .null, .int 0, .int 0, .int 0]) (by simp only [putR]; rw [if_neg (by omega), if_neg (by omega)]; exact hW) rfl rfl (Nat.le_of_ble_eq_true rfl) (fun H locs hM hS => ?_)
  refine lv_aload_n hx hb dX4_init_16 rfl (lv_at hl 0 rfl) ?_
  refine lv_bipush (v := nI 60) hx hb dX4_init_17 (by decide) ?_
  have hz : r + 2 < H.size := hM.lt (a := r + 2) (e := .inl (gI g, 3, .inl (fun _ => 0))) (by simp [upM, putR])
  refine k_newaC hc (N' := 60) (by decide) (by decide) (by decide) dX4_init_19 hM hS (q := r + 3) (by omega) (by omega) (Nat.le_of_ble_eq_true rfl) (Nat.le_of_ble_eq_true rfl) (fun H hM hS => ?_)
  refine pt_X4_20 hc hin2 dX4_init_21 hM hS (a := r) (fs := [.ref (r + 1), .null, .int 0, .int 0, .int 0]) (by simp [upM]) rfl rfl (Nat.le_of_ble_eq_true rfl) (fun H locs hM hS => ?_)
  refine lv_aload_n hx hb dX4_init_24 rfl (lv_at hl 0 rfl) ?_
  refine lv_iconst (v := 0) hx hb dX4_init_25 (by decide) ?_
  refine pt_X4_24 hc dX4_init_26 hM hS (a := r) (fs := [.ref (r + 1), .ref (r + 3), .int 0, .int 0, .int 0]) (by simp [upM]) rfl rfl (Nat.le_of_ble_eq_true rfl) (fun H locs hM hS => ?_)
  refine lv_aload_n hx hb dX4_init_29 rfl (lv_at hl 0 rfl) ?_
  refine lv_iconst (v := 0) hx hb dX4_init_30 (by decide) ?_
  refine pt_X4_28 hc dX4_init_31 hM hS (a := r) (fs := [.ref (r + 1), .ref (r + 3), .int 0, .int 0, .int 0]) (by simp [upM]) rfl rfl (Nat.le_of_ble_eq_true rfl) (fun H locs hM hS => ?_)
  refine lv_aload_n hx hb dX4_init_34 rfl (lv_at hl 0 rfl) ?_
  refine lv_bipush (v := nI 32) hx hb dX4_init_35 (by decide) ?_
  refine pt_X4_31 hc dX4_init_37 hM hS (a := r) (fs := [.ref (r + 1), .ref (r + 3), .int 0, .int 0, .int 0]) (by simp [upM]) rfl rfl (Nat.le_of_ble_eq_true rfl) (fun H locs hM hS => ?_)
  exact k_vret hc hr dX4_init_40 (hM.eq (by funext q; by_cases h : q = r <;> simp [upM, h] <;> rfl)) hS (Nat.le_of_ble_eq_true rfl) (Nat.le_of_ble_eq_true rfl) rfl
