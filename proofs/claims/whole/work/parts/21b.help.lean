/-! THE LAW'S OWN METHODS: each calls one of the class and catches what it throws -/
set_option maxHeartbeats 4000000 in
set_option maxRecDepth 100000 in
theorem c_L_stake (l : Launch) (hlf : l.stackTraces = false) (g : GC) (M : HM) (x o : Nat) (p0 : Int32) {fs : List Value} (hx7 : M x = some (.inr (7, fs))) {res res2 : Rs} (hK : KM g l yX5_stake cX5_stake 2 (some .int) 7 1 6 [.ref x, .int p0] M res) (hO : hOut g o ["java/lang/UnsupportedOperationException"] res res2) : KH g l yL_stake cL_stake 4 [(0, 9, 12, 13)] 8 1 6 [.ref x, .int p0, .ref o] M res2 := by
  refine k_methH hlf (by decide) (Nat.le_of_ble_eq_true rfl) fun p e s m below meth c ls hc hr ht hM hS hl => ?_
  have hc : Cx g p l s m [.ref x, .int p0, .ref o].toArray meth c cL_stake 4 RL := hc
  have hx := hc.1
  have hb := hc.2.1
  have hl : lv_has ls 4 [(0, .ref x), (1, .int p0), (2, .ref o)] := hl
  refine lv_aload_n hx hb dL_stake_0 rfl (lv_at hl 2 rfl) ?_
  refine lv_iconst (v := 0) hx hb dL_stake_1 (by decide) ?_
  refine lv_aload_n hx hb dL_stake_2 rfl (lv_at hl 0 rfl) ?_
  refine lv_iload_n hx hb dL_stake_3 rfl (lv_at hl 1 rfl) ?_
  refine k_goV hc (As := [.int p0]) (rest := [.int 0, .ref o]) cw_L_7 rfl dL_stake_4 hK hx7 hM hS rfl hl.1 ⟨Nat.le_of_ble_eq_true rfl, Nat.le_of_ble_eq_true rfl⟩ ⟨Nat.le_of_ble_eq_true rfl, Nat.le_of_ble_eq_true rfl⟩ (Nat.le_of_ble_eq_true rfl) (fun v M1 H locs hres hM hS => ?_) (fun E M1 H locs q9 ce hres hM hS hcell hcv hcl => ?_)
  · rcases hO with ⟨w, M2, f, h1, h2, h3⟩ | ⟨k, E, M2, h0, h1, h3⟩
    · rw [hres] at h1
      cases h1
      refine lv_i2l hx hb dL_stake_7 rfl ?_
      refine k_last hc hM hS h2 in01 dL_stake_8 (fun H locs hM hS => ?_)
      refine lv_goto (tgt := 15) hx hb dL_stake_9 (by decide) ?_
      refine lv_iconst (v := 0) hx hb dL_stake_15 (by decide) ?_
      exact k_iret hc hr dL_stake_16 hM hS (Nat.le_of_ble_eq_true rfl) (Nat.le_of_ble_eq_true rfl) h3
    · rw [hres] at h1
      cases h1
  · rcases hO with ⟨w, M2, f, h1, h2, h3⟩ | ⟨k, E2, M2, h0, h1, h3⟩
    · rw [hres] at h1
      cases h1
    · rw [hres] at h1
      cases h1
      obtain ⟨rfl, rfl⟩ : k = 0 ∧ E = "java/lang/UnsupportedOperationException" := by
        match k, h0 with
        | 0, h0 => exact ⟨rfl, (Option.some.inj h0).symm⟩
        | k + 1, h0 => cases h0
      refine k_catch hc (E := "java/lang/UnsupportedOperationException") (by decide +kernel) [] ⟨0, 9, 12, 13⟩ [] ht (fun z hz => by cases hz) (by decide) (by decide) ql_L_13 hcell hcv hcl ?_
      refine lv_astore_n (lv' := [(3, .ref q9), (0, .ref x), (1, .int p0), (2, .ref o)]) hx hb dL_stake_12 rfl hl (by decide) rfl (fun ls hl => ?_)
      refine lv_iconst (v := 1) hx hb dL_stake_13 (by decide) ?_
      exact k_iret hc hr dL_stake_14 hM hS (Nat.le_of_ble_eq_true rfl) (Nat.le_of_ble_eq_true rfl) h3
set_option maxHeartbeats 4000000 in
set_option maxRecDepth 100000 in
theorem c_L_post (l : Launch) (hlf : l.stackTraces = false) (g : GC) (M : HM) (x o : Nat) (p0 p1 : Int32) {fs : List Value} (hx7 : M x = some (.inr (7, fs))) {res res2 : Rs} (hK : KM g l yX5_post cX5_post 3 (some .int) 7 1 6 [.ref x, .int p0, .int p1] M res) (hO : hOut g o ["java/lang/UnsupportedOperationException"] res res2) : KH g l yL_post cL_post 5 [(0, 10, 13, 13)] 8 1 6 [.ref x, .int p0, .int p1, .ref o] M res2 := by
  refine k_methH hlf (by decide) (Nat.le_of_ble_eq_true rfl) fun p e s m below meth c ls hc hr ht hM hS hl => ?_
  have hc : Cx g p l s m [.ref x, .int p0, .int p1, .ref o].toArray meth c cL_post 5 RL := hc
  have hx := hc.1
  have hb := hc.2.1
  have hl : lv_has ls 5 [(0, .ref x), (1, .int p0), (2, .int p1), (3, .ref o)] := hl
  refine lv_aload_n hx hb dL_post_0 rfl (lv_at hl 3 rfl) ?_
  refine lv_iconst (v := 0) hx hb dL_post_1 (by decide) ?_
  refine lv_aload_n hx hb dL_post_2 rfl (lv_at hl 0 rfl) ?_
  refine lv_iload_n hx hb dL_post_3 rfl (lv_at hl 1 rfl) ?_
  refine lv_iload_n hx hb dL_post_4 rfl (lv_at hl 2 rfl) ?_
  refine k_goV hc (As := [.int p0, .int p1]) (rest := [.int 0, .ref o]) cw_L_15 rfl dL_post_5 hK hx7 hM hS rfl hl.1 ⟨Nat.le_of_ble_eq_true rfl, Nat.le_of_ble_eq_true rfl⟩ ⟨Nat.le_of_ble_eq_true rfl, Nat.le_of_ble_eq_true rfl⟩ (Nat.le_of_ble_eq_true rfl) (fun v M1 H locs hres hM hS => ?_) (fun E M1 H locs q9 ce hres hM hS hcell hcv hcl => ?_)
  · rcases hO with ⟨w, M2, f, h1, h2, h3⟩ | ⟨k, E, M2, h0, h1, h3⟩
    · rw [hres] at h1
      cases h1
      refine lv_i2l hx hb dL_post_8 rfl ?_
      refine k_last hc hM hS h2 in01 dL_post_9 (fun H locs hM hS => ?_)
      refine lv_goto (tgt := 17) hx hb dL_post_10 (by decide) ?_
      refine lv_iconst (v := 0) hx hb dL_post_17 (by decide) ?_
      exact k_iret hc hr dL_post_18 hM hS (Nat.le_of_ble_eq_true rfl) (Nat.le_of_ble_eq_true rfl) h3
    · rw [hres] at h1
      cases h1
  · rcases hO with ⟨w, M2, f, h1, h2, h3⟩ | ⟨k, E2, M2, h0, h1, h3⟩
    · rw [hres] at h1
      cases h1
    · rw [hres] at h1
      cases h1
      obtain ⟨rfl, rfl⟩ : k = 0 ∧ E = "java/lang/UnsupportedOperationException" := by
        match k, h0 with
        | 0, h0 => exact ⟨rfl, (Option.some.inj h0).symm⟩
        | k + 1, h0 => cases h0
      refine k_catch hc (E := "java/lang/UnsupportedOperationException") (by decide +kernel) [] ⟨0, 10, 13, 13⟩ [] ht (fun z hz => by cases hz) (by decide) (by decide) ql_L_13 hcell hcv hcl ?_
      refine lv_astore (lv' := [(4, .ref q9), (0, .ref x), (1, .int p0), (2, .int p1), (3, .ref o)]) hx hb dL_post_13 hl (by decide) rfl (fun ls hl => ?_)
      refine lv_iconst (v := 1) hx hb dL_post_15 (by decide) ?_
      exact k_iret hc hr dL_post_16 hM hS (Nat.le_of_ble_eq_true rfl) (Nat.le_of_ble_eq_true rfl) h3
set_option maxHeartbeats 4000000 in
set_option maxRecDepth 100000 in
theorem c_L_sheet (l : Launch) (hlf : l.stackTraces = false) (g : GC) (M : HM) (x o : Nat) {fs : List Value} (hx7 : M x = some (.inr (7, fs))) {res res2 : Rs} (hK : KM g l yX5_sheet cX5_sheet 1 (some .int) 7 1 6 [.ref x] M res) (hO : hOut g o ["java/lang/UnsupportedOperationException"] res res2) : KH g l yL_sheet cL_sheet 3 [(0, 8, 11, 13)] 8 1 6 [.ref x, .ref o] M res2 := by
  refine k_methH hlf (by decide) (Nat.le_of_ble_eq_true rfl) fun p e s m below meth c ls hc hr ht hM hS hl => ?_
  have hc : Cx g p l s m [.ref x, .ref o].toArray meth c cL_sheet 3 RL := hc
  have hx := hc.1
  have hb := hc.2.1
  have hl : lv_has ls 3 [(0, .ref x), (1, .ref o)] := hl
  refine lv_aload_n hx hb dL_sheet_0 rfl (lv_at hl 1 rfl) ?_
  refine lv_iconst (v := 0) hx hb dL_sheet_1 (by decide) ?_
  refine lv_aload_n hx hb dL_sheet_2 rfl (lv_at hl 0 rfl) ?_
  refine k_goV hc (As := []) (rest := [.int 0, .ref o]) cw_L_19 rfl dL_sheet_3 hK hx7 hM hS rfl hl.1 ⟨Nat.le_of_ble_eq_true rfl, Nat.le_of_ble_eq_true rfl⟩ ⟨Nat.le_of_ble_eq_true rfl, Nat.le_of_ble_eq_true rfl⟩ (Nat.le_of_ble_eq_true rfl) (fun v M1 H locs hres hM hS => ?_) (fun E M1 H locs q9 ce hres hM hS hcell hcv hcl => ?_)
  · rcases hO with ⟨w, M2, f, h1, h2, h3⟩ | ⟨k, E, M2, h0, h1, h3⟩
    · rw [hres] at h1
      cases h1
      refine lv_i2l hx hb dL_sheet_6 rfl ?_
      refine k_last hc hM hS h2 in01 dL_sheet_7 (fun H locs hM hS => ?_)
      refine lv_goto (tgt := 14) hx hb dL_sheet_8 (by decide) ?_
      refine lv_iconst (v := 0) hx hb dL_sheet_14 (by decide) ?_
      exact k_iret hc hr dL_sheet_15 hM hS (Nat.le_of_ble_eq_true rfl) (Nat.le_of_ble_eq_true rfl) h3
    · rw [hres] at h1
      cases h1
  · rcases hO with ⟨w, M2, f, h1, h2, h3⟩ | ⟨k, E2, M2, h0, h1, h3⟩
    · rw [hres] at h1
      cases h1
    · rw [hres] at h1
      cases h1
      obtain ⟨rfl, rfl⟩ : k = 0 ∧ E = "java/lang/UnsupportedOperationException" := by
        match k, h0 with
        | 0, h0 => exact ⟨rfl, (Option.some.inj h0).symm⟩
        | k + 1, h0 => cases h0
      refine k_catch hc (E := "java/lang/UnsupportedOperationException") (by decide +kernel) [] ⟨0, 8, 11, 13⟩ [] ht (fun z hz => by cases hz) (by decide) (by decide) ql_L_13 hcell hcv hcl ?_
      refine lv_astore_n (lv' := [(2, .ref q9), (0, .ref x), (1, .ref o)]) hx hb dL_sheet_11 rfl hl (by decide) rfl (fun ls hl => ?_)
      refine lv_iconst (v := 1) hx hb dL_sheet_12 (by decide) ?_
      exact k_iret hc hr dL_sheet_13 hM hS (Nat.le_of_ble_eq_true rfl) (Nat.le_of_ble_eq_true rfl) h3
set_option maxHeartbeats 4000000 in
set_option maxRecDepth 100000 in
theorem c_L_heat (l : Launch) (hlf : l.stackTraces = false) (g : GC) (M : HM) (x o : Nat) (p0 : Int32) {fs : List Value} (hx7 : M x = some (.inr (7, fs))) {res res2 : Rs} (hK : KM g l yX5_heat cX5_heat 2 (some .int) 7 1 6 [.ref x, .int p0] M res) (hO : hOut g o ["java/lang/UnsupportedOperationException"] res res2) : KH g l yL_heat cL_heat 4 [(0, 9, 12, 13)] 8 1 6 [.ref x, .int p0, .ref o] M res2 := by
  refine k_methH hlf (by decide) (Nat.le_of_ble_eq_true rfl) fun p e s m below meth c ls hc hr ht hM hS hl => ?_
  have hc : Cx g p l s m [.ref x, .int p0, .ref o].toArray meth c cL_heat 4 RL := hc
  have hx := hc.1
  have hb := hc.2.1
  have hl : lv_has ls 4 [(0, .ref x), (1, .int p0), (2, .ref o)] := hl
  refine lv_aload_n hx hb dL_heat_0 rfl (lv_at hl 2 rfl) ?_
  refine lv_iconst (v := 0) hx hb dL_heat_1 (by decide) ?_
  refine lv_aload_n hx hb dL_heat_2 rfl (lv_at hl 0 rfl) ?_
  refine lv_iload_n hx hb dL_heat_3 rfl (lv_at hl 1 rfl) ?_
  refine k_goV hc (As := [.int p0]) (rest := [.int 0, .ref o]) cw_L_23 rfl dL_heat_4 hK hx7 hM hS rfl hl.1 ⟨Nat.le_of_ble_eq_true rfl, Nat.le_of_ble_eq_true rfl⟩ ⟨Nat.le_of_ble_eq_true rfl, Nat.le_of_ble_eq_true rfl⟩ (Nat.le_of_ble_eq_true rfl) (fun v M1 H locs hres hM hS => ?_) (fun E M1 H locs q9 ce hres hM hS hcell hcv hcl => ?_)
  · rcases hO with ⟨w, M2, f, h1, h2, h3⟩ | ⟨k, E, M2, h0, h1, h3⟩
    · rw [hres] at h1
      cases h1
      refine lv_i2l hx hb dL_heat_7 rfl ?_
      refine k_last hc hM hS h2 in01 dL_heat_8 (fun H locs hM hS => ?_)
      refine lv_goto (tgt := 15) hx hb dL_heat_9 (by decide) ?_
      refine lv_iconst (v := 0) hx hb dL_heat_15 (by decide) ?_
      exact k_iret hc hr dL_heat_16 hM hS (Nat.le_of_ble_eq_true rfl) (Nat.le_of_ble_eq_true rfl) h3
    · rw [hres] at h1
      cases h1
  · rcases hO with ⟨w, M2, f, h1, h2, h3⟩ | ⟨k, E2, M2, h0, h1, h3⟩
    · rw [hres] at h1
      cases h1
    · rw [hres] at h1
      cases h1
      obtain ⟨rfl, rfl⟩ : k = 0 ∧ E = "java/lang/UnsupportedOperationException" := by
        match k, h0 with
        | 0, h0 => exact ⟨rfl, (Option.some.inj h0).symm⟩
        | k + 1, h0 => cases h0
      refine k_catch hc (E := "java/lang/UnsupportedOperationException") (by decide +kernel) [] ⟨0, 9, 12, 13⟩ [] ht (fun z hz => by cases hz) (by decide) (by decide) ql_L_13 hcell hcv hcl ?_
      refine lv_astore_n (lv' := [(3, .ref q9), (0, .ref x), (1, .int p0), (2, .ref o)]) hx hb dL_heat_12 rfl hl (by decide) rfl (fun ls hl => ?_)
      refine lv_iconst (v := 1) hx hb dL_heat_13 (by decide) ?_
      exact k_iret hc hr dL_heat_14 hM hS (Nat.le_of_ble_eq_true rfl) (Nat.le_of_ble_eq_true rfl) h3
set_option maxHeartbeats 4000000 in
set_option maxRecDepth 100000 in
theorem c_L_sight (l : Launch) (hlf : l.stackTraces = false) (g : GC) (M : HM) (x o : Nat) (p0 p1 p2 : Int32) {fs : List Value} (hx7 : M x = some (.inr (7, fs))) {res res2 : Rs} (hK : KM g l yX5_sight cX5_sight 4 (some .int) 9 1 6 [.ref x, .int p0, .int p1, .int p2] M res) (hO : hOut g o ["java/lang/UnsupportedOperationException"] res res2) : KH g l yL_sight cL_sight 6 [(0, 12, 15, 13)] 10 1 6 [.ref x, .int p0, .int p1, .int p2, .ref o] M res2 := by
  refine k_methH hlf (by decide) (Nat.le_of_ble_eq_true rfl) fun p e s m below meth c ls hc hr ht hM hS hl => ?_
  have hc : Cx g p l s m [.ref x, .int p0, .int p1, .int p2, .ref o].toArray meth c cL_sight 6 RL := hc
  have hx := hc.1
  have hb := hc.2.1
  have hl : lv_has ls 6 [(0, .ref x), (1, .int p0), (2, .int p1), (3, .int p2), (4, .ref o)] := hl
  refine lv_aload hx hb dL_sight_0 (lv_at hl 4 rfl) ?_
  refine lv_iconst (v := 0) hx hb dL_sight_2 (by decide) ?_
  refine lv_aload_n hx hb dL_sight_3 rfl (lv_at hl 0 rfl) ?_
  refine lv_iload_n hx hb dL_sight_4 rfl (lv_at hl 1 rfl) ?_
  refine lv_iload_n hx hb dL_sight_5 rfl (lv_at hl 2 rfl) ?_
  refine lv_iload_n hx hb dL_sight_6 rfl (lv_at hl 3 rfl) ?_
  refine k_goV hc (As := [.int p0, .int p1, .int p2]) (rest := [.int 0, .ref o]) cw_L_26 rfl dL_sight_7 hK hx7 hM hS rfl hl.1 ⟨Nat.le_of_ble_eq_true rfl, Nat.le_of_ble_eq_true rfl⟩ ⟨Nat.le_of_ble_eq_true rfl, Nat.le_of_ble_eq_true rfl⟩ (Nat.le_of_ble_eq_true rfl) (fun v M1 H locs hres hM hS => ?_) (fun E M1 H locs q9 ce hres hM hS hcell hcv hcl => ?_)
  · rcases hO with ⟨w, M2, f, h1, h2, h3⟩ | ⟨k, E, M2, h0, h1, h3⟩
    · rw [hres] at h1
      cases h1
      refine lv_i2l hx hb dL_sight_10 rfl ?_
      refine k_last hc hM hS h2 in01 dL_sight_11 (fun H locs hM hS => ?_)
      refine lv_goto (tgt := 19) hx hb dL_sight_12 (by decide) ?_
      refine lv_iconst (v := 0) hx hb dL_sight_19 (by decide) ?_
      exact k_iret hc hr dL_sight_20 hM hS (Nat.le_of_ble_eq_true rfl) (Nat.le_of_ble_eq_true rfl) h3
    · rw [hres] at h1
      cases h1
  · rcases hO with ⟨w, M2, f, h1, h2, h3⟩ | ⟨k, E2, M2, h0, h1, h3⟩
    · rw [hres] at h1
      cases h1
    · rw [hres] at h1
      cases h1
      obtain ⟨rfl, rfl⟩ : k = 0 ∧ E = "java/lang/UnsupportedOperationException" := by
        match k, h0 with
        | 0, h0 => exact ⟨rfl, (Option.some.inj h0).symm⟩
        | k + 1, h0 => cases h0
      refine k_catch hc (E := "java/lang/UnsupportedOperationException") (by decide +kernel) [] ⟨0, 12, 15, 13⟩ [] ht (fun z hz => by cases hz) (by decide) (by decide) ql_L_13 hcell hcv hcl ?_
      refine lv_astore (lv' := [(5, .ref q9), (0, .ref x), (1, .int p0), (2, .int p1), (3, .int p2), (4, .ref o)]) hx hb dL_sight_15 hl (by decide) rfl (fun ls hl => ?_)
      refine lv_iconst (v := 1) hx hb dL_sight_17 (by decide) ?_
      exact k_iret hc hr dL_sight_18 hM hS (Nat.le_of_ble_eq_true rfl) (Nat.le_of_ble_eq_true rfl) h3
set_option maxHeartbeats 4000000 in
set_option maxRecDepth 100000 in
theorem c_L_erase (l : Launch) (hlf : l.stackTraces = false) (g : GC) (M : HM) (x o : Nat) (p0 p1 : Int32) {fs : List Value} (hx7 : M x = some (.inr (7, fs))) {res res2 : Rs} (hK : KM g l yX5_erase cX5_erase 3 (some .int) 7 1 6 [.ref x, .int p0, .int p1] M res) (hO : hOut g o ["java/lang/UnsupportedOperationException"] res res2) : KH g l yL_erase cL_erase 5 [(0, 10, 13, 13)] 8 1 6 [.ref x, .int p0, .int p1, .ref o] M res2 := by
  refine k_methH hlf (by decide) (Nat.le_of_ble_eq_true rfl) fun p e s m below meth c ls hc hr ht hM hS hl => ?_
  have hc : Cx g p l s m [.ref x, .int p0, .int p1, .ref o].toArray meth c cL_erase 5 RL := hc
  have hx := hc.1
  have hb := hc.2.1
  have hl : lv_has ls 5 [(0, .ref x), (1, .int p0), (2, .int p1), (3, .ref o)] := hl
  refine lv_aload_n hx hb dL_erase_0 rfl (lv_at hl 3 rfl) ?_
  refine lv_iconst (v := 0) hx hb dL_erase_1 (by decide) ?_
  refine lv_aload_n hx hb dL_erase_2 rfl (lv_at hl 0 rfl) ?_
  refine lv_iload_n hx hb dL_erase_3 rfl (lv_at hl 1 rfl) ?_
  refine lv_iload_n hx hb dL_erase_4 rfl (lv_at hl 2 rfl) ?_
  refine k_goV hc (As := [.int p0, .int p1]) (rest := [.int 0, .ref o]) cw_L_30 rfl dL_erase_5 hK hx7 hM hS rfl hl.1 ⟨Nat.le_of_ble_eq_true rfl, Nat.le_of_ble_eq_true rfl⟩ ⟨Nat.le_of_ble_eq_true rfl, Nat.le_of_ble_eq_true rfl⟩ (Nat.le_of_ble_eq_true rfl) (fun v M1 H locs hres hM hS => ?_) (fun E M1 H locs q9 ce hres hM hS hcell hcv hcl => ?_)
  · rcases hO with ⟨w, M2, f, h1, h2, h3⟩ | ⟨k, E, M2, h0, h1, h3⟩
    · rw [hres] at h1
      cases h1
      refine lv_i2l hx hb dL_erase_8 rfl ?_
      refine k_last hc hM hS h2 in01 dL_erase_9 (fun H locs hM hS => ?_)
      refine lv_goto (tgt := 17) hx hb dL_erase_10 (by decide) ?_
      refine lv_iconst (v := 0) hx hb dL_erase_17 (by decide) ?_
      exact k_iret hc hr dL_erase_18 hM hS (Nat.le_of_ble_eq_true rfl) (Nat.le_of_ble_eq_true rfl) h3
    · rw [hres] at h1
      cases h1
  · rcases hO with ⟨w, M2, f, h1, h2, h3⟩ | ⟨k, E2, M2, h0, h1, h3⟩
    · rw [hres] at h1
      cases h1
    · rw [hres] at h1
      cases h1
      obtain ⟨rfl, rfl⟩ : k = 0 ∧ E = "java/lang/UnsupportedOperationException" := by
        match k, h0 with
        | 0, h0 => exact ⟨rfl, (Option.some.inj h0).symm⟩
        | k + 1, h0 => cases h0
      refine k_catch hc (E := "java/lang/UnsupportedOperationException") (by decide +kernel) [] ⟨0, 10, 13, 13⟩ [] ht (fun z hz => by cases hz) (by decide) (by decide) ql_L_13 hcell hcv hcl ?_
      refine lv_astore (lv' := [(4, .ref q9), (0, .ref x), (1, .int p0), (2, .int p1), (3, .ref o)]) hx hb dL_erase_13 hl (by decide) rfl (fun ls hl => ?_)
      refine lv_iconst (v := 1) hx hb dL_erase_15 (by decide) ?_
      exact k_iret hc hr dL_erase_16 hM hS (Nat.le_of_ble_eq_true rfl) (Nat.le_of_ble_eq_true rfl) h3
set_option maxHeartbeats 4000000 in
set_option maxRecDepth 100000 in
theorem c_L_camel (l : Launch) (hlf : l.stackTraces = false) (g : GC) (M : HM) (x o : Nat) (p0 : Int32) {fs : List Value} (hx7 : M x = some (.inr (7, fs))) {res res2 : Rs} (hK : KM g l yX5_camel cX5_camel 2 (some .int) 7 1 6 [.ref x, .int p0] M res) (hO : hOut g o ["java/lang/UnsupportedOperationException"] res res2) : KH g l yL_camel cL_camel 4 [(0, 9, 12, 13)] 8 1 6 [.ref x, .int p0, .ref o] M res2 := by
  refine k_methH hlf (by decide) (Nat.le_of_ble_eq_true rfl) fun p e s m below meth c ls hc hr ht hM hS hl => ?_
  have hc : Cx g p l s m [.ref x, .int p0, .ref o].toArray meth c cL_camel 4 RL := hc
  have hx := hc.1
  have hb := hc.2.1
  have hl : lv_has ls 4 [(0, .ref x), (1, .int p0), (2, .ref o)] := hl
  refine lv_aload_n hx hb dL_camel_0 rfl (lv_at hl 2 rfl) ?_
  refine lv_iconst (v := 0) hx hb dL_camel_1 (by decide) ?_
  refine lv_aload_n hx hb dL_camel_2 rfl (lv_at hl 0 rfl) ?_
  refine lv_iload_n hx hb dL_camel_3 rfl (lv_at hl 1 rfl) ?_
  refine k_goV hc (As := [.int p0]) (rest := [.int 0, .ref o]) cw_L_33 rfl dL_camel_4 hK hx7 hM hS rfl hl.1 ⟨Nat.le_of_ble_eq_true rfl, Nat.le_of_ble_eq_true rfl⟩ ⟨Nat.le_of_ble_eq_true rfl, Nat.le_of_ble_eq_true rfl⟩ (Nat.le_of_ble_eq_true rfl) (fun v M1 H locs hres hM hS => ?_) (fun E M1 H locs q9 ce hres hM hS hcell hcv hcl => ?_)
  · rcases hO with ⟨w, M2, f, h1, h2, h3⟩ | ⟨k, E, M2, h0, h1, h3⟩
    · rw [hres] at h1
      cases h1
      refine lv_i2l hx hb dL_camel_7 rfl ?_
      refine k_last hc hM hS h2 in01 dL_camel_8 (fun H locs hM hS => ?_)
      refine lv_goto (tgt := 15) hx hb dL_camel_9 (by decide) ?_
      refine lv_iconst (v := 0) hx hb dL_camel_15 (by decide) ?_
      exact k_iret hc hr dL_camel_16 hM hS (Nat.le_of_ble_eq_true rfl) (Nat.le_of_ble_eq_true rfl) h3
    · rw [hres] at h1
      cases h1
  · rcases hO with ⟨w, M2, f, h1, h2, h3⟩ | ⟨k, E2, M2, h0, h1, h3⟩
    · rw [hres] at h1
      cases h1
    · rw [hres] at h1
      cases h1
      obtain ⟨rfl, rfl⟩ : k = 0 ∧ E = "java/lang/UnsupportedOperationException" := by
        match k, h0 with
        | 0, h0 => exact ⟨rfl, (Option.some.inj h0).symm⟩
        | k + 1, h0 => cases h0
      refine k_catch hc (E := "java/lang/UnsupportedOperationException") (by decide +kernel) [] ⟨0, 9, 12, 13⟩ [] ht (fun z hz => by cases hz) (by decide) (by decide) ql_L_13 hcell hcv hcl ?_
      refine lv_astore_n (lv' := [(3, .ref q9), (0, .ref x), (1, .int p0), (2, .ref o)]) hx hb dL_camel_12 rfl hl (by decide) rfl (fun ls hl => ?_)
      refine lv_iconst (v := 1) hx hb dL_camel_13 (by decide) ?_
      exact k_iret hc hr dL_camel_14 hM hS (Nat.le_of_ble_eq_true rfl) (Nat.le_of_ble_eq_true rfl) h3
set_option maxHeartbeats 4000000 in
set_option maxRecDepth 100000 in
theorem c_L_bell (l : Launch) (hlf : l.stackTraces = false) (g : GC) (M : HM) (x o : Nat) (p0 : Int32) {fs : List Value} (hx7 : M x = some (.inr (7, fs))) {res res2 : Rs} (hK : KM g l yX5_bell cX5_bell 2 (some .int) 7 1 6 [.ref x, .int p0] M res) (hO : hOut g o ["java/lang/UnsupportedOperationException"] res res2) : KH g l yL_bell cL_bell 4 [(0, 9, 12, 13)] 8 1 6 [.ref x, .int p0, .ref o] M res2 := by
  refine k_methH hlf (by decide) (Nat.le_of_ble_eq_true rfl) fun p e s m below meth c ls hc hr ht hM hS hl => ?_
  have hc : Cx g p l s m [.ref x, .int p0, .ref o].toArray meth c cL_bell 4 RL := hc
  have hx := hc.1
  have hb := hc.2.1
  have hl : lv_has ls 4 [(0, .ref x), (1, .int p0), (2, .ref o)] := hl
  refine lv_aload_n hx hb dL_bell_0 rfl (lv_at hl 2 rfl) ?_
  refine lv_iconst (v := 0) hx hb dL_bell_1 (by decide) ?_
  refine lv_aload_n hx hb dL_bell_2 rfl (lv_at hl 0 rfl) ?_
  refine lv_iload_n hx hb dL_bell_3 rfl (lv_at hl 1 rfl) ?_
  refine k_goV hc (As := [.int p0]) (rest := [.int 0, .ref o]) cw_L_36 rfl dL_bell_4 hK hx7 hM hS rfl hl.1 ⟨Nat.le_of_ble_eq_true rfl, Nat.le_of_ble_eq_true rfl⟩ ⟨Nat.le_of_ble_eq_true rfl, Nat.le_of_ble_eq_true rfl⟩ (Nat.le_of_ble_eq_true rfl) (fun v M1 H locs hres hM hS => ?_) (fun E M1 H locs q9 ce hres hM hS hcell hcv hcl => ?_)
  · rcases hO with ⟨w, M2, f, h1, h2, h3⟩ | ⟨k, E, M2, h0, h1, h3⟩
    · rw [hres] at h1
      cases h1
      refine lv_i2l hx hb dL_bell_7 rfl ?_
      refine k_last hc hM hS h2 in01 dL_bell_8 (fun H locs hM hS => ?_)
      refine lv_goto (tgt := 15) hx hb dL_bell_9 (by decide) ?_
      refine lv_iconst (v := 0) hx hb dL_bell_15 (by decide) ?_
      exact k_iret hc hr dL_bell_16 hM hS (Nat.le_of_ble_eq_true rfl) (Nat.le_of_ble_eq_true rfl) h3
    · rw [hres] at h1
      cases h1
  · rcases hO with ⟨w, M2, f, h1, h2, h3⟩ | ⟨k, E2, M2, h0, h1, h3⟩
    · rw [hres] at h1
      cases h1
    · rw [hres] at h1
      cases h1
      obtain ⟨rfl, rfl⟩ : k = 0 ∧ E = "java/lang/UnsupportedOperationException" := by
        match k, h0 with
        | 0, h0 => exact ⟨rfl, (Option.some.inj h0).symm⟩
        | k + 1, h0 => cases h0
      refine k_catch hc (E := "java/lang/UnsupportedOperationException") (by decide +kernel) [] ⟨0, 9, 12, 13⟩ [] ht (fun z hz => by cases hz) (by decide) (by decide) ql_L_13 hcell hcv hcl ?_
      refine lv_astore_n (lv' := [(3, .ref q9), (0, .ref x), (1, .int p0), (2, .ref o)]) hx hb dL_bell_12 rfl hl (by decide) rfl (fun ls hl => ?_)
      refine lv_iconst (v := 1) hx hb dL_bell_13 (by decide) ?_
      exact k_iret hc hr dL_bell_14 hM hS (Nat.le_of_ble_eq_true rfl) (Nat.le_of_ble_eq_true rfl) h3
set_option maxHeartbeats 4000000 in
set_option maxRecDepth 100000 in
theorem c_L_tie (l : Launch) (hlf : l.stackTraces = false) (g : GC) (M : HM) (x o : Nat) (p0 : Int32) {fs : List Value} (hx7 : M x = some (.inr (7, fs))) {res res2 : Rs} (hK : KM g l yX5_tie cX5_tie 2 (some .int) 7 1 6 [.ref x, .int p0] M res) (hO : hOut g o ["java/lang/UnsupportedOperationException"] res res2) : KH g l yL_tie cL_tie 4 [(0, 9, 12, 13)] 8 1 6 [.ref x, .int p0, .ref o] M res2 := by
  refine k_methH hlf (by decide) (Nat.le_of_ble_eq_true rfl) fun p e s m below meth c ls hc hr ht hM hS hl => ?_
  have hc : Cx g p l s m [.ref x, .int p0, .ref o].toArray meth c cL_tie 4 RL := hc
  have hx := hc.1
  have hb := hc.2.1
  have hl : lv_has ls 4 [(0, .ref x), (1, .int p0), (2, .ref o)] := hl
  refine lv_aload_n hx hb dL_tie_0 rfl (lv_at hl 2 rfl) ?_
  refine lv_iconst (v := 0) hx hb dL_tie_1 (by decide) ?_
  refine lv_aload_n hx hb dL_tie_2 rfl (lv_at hl 0 rfl) ?_
  refine lv_iload_n hx hb dL_tie_3 rfl (lv_at hl 1 rfl) ?_
  refine k_goV hc (As := [.int p0]) (rest := [.int 0, .ref o]) cw_L_39 rfl dL_tie_4 hK hx7 hM hS rfl hl.1 ⟨Nat.le_of_ble_eq_true rfl, Nat.le_of_ble_eq_true rfl⟩ ⟨Nat.le_of_ble_eq_true rfl, Nat.le_of_ble_eq_true rfl⟩ (Nat.le_of_ble_eq_true rfl) (fun v M1 H locs hres hM hS => ?_) (fun E M1 H locs q9 ce hres hM hS hcell hcv hcl => ?_)
  · rcases hO with ⟨w, M2, f, h1, h2, h3⟩ | ⟨k, E, M2, h0, h1, h3⟩
    · rw [hres] at h1
      cases h1
      refine lv_i2l hx hb dL_tie_7 rfl ?_
      refine k_last hc hM hS h2 in01 dL_tie_8 (fun H locs hM hS => ?_)
      refine lv_goto (tgt := 15) hx hb dL_tie_9 (by decide) ?_
      refine lv_iconst (v := 0) hx hb dL_tie_15 (by decide) ?_
      exact k_iret hc hr dL_tie_16 hM hS (Nat.le_of_ble_eq_true rfl) (Nat.le_of_ble_eq_true rfl) h3
    · rw [hres] at h1
      cases h1
  · rcases hO with ⟨w, M2, f, h1, h2, h3⟩ | ⟨k, E2, M2, h0, h1, h3⟩
    · rw [hres] at h1
      cases h1
    · rw [hres] at h1
      cases h1
      obtain ⟨rfl, rfl⟩ : k = 0 ∧ E = "java/lang/UnsupportedOperationException" := by
        match k, h0 with
        | 0, h0 => exact ⟨rfl, (Option.some.inj h0).symm⟩
        | k + 1, h0 => cases h0
      refine k_catch hc (E := "java/lang/UnsupportedOperationException") (by decide +kernel) [] ⟨0, 9, 12, 13⟩ [] ht (fun z hz => by cases hz) (by decide) (by decide) ql_L_13 hcell hcv hcl ?_
      refine lv_astore_n (lv' := [(3, .ref q9), (0, .ref x), (1, .int p0), (2, .ref o)]) hx hb dL_tie_12 rfl hl (by decide) rfl (fun ls hl => ?_)
      refine lv_iconst (v := 1) hx hb dL_tie_13 (by decide) ?_
      exact k_iret hc hr dL_tie_14 hM hS (Nat.le_of_ble_eq_true rfl) (Nat.le_of_ble_eq_true rfl) h3
set_option maxHeartbeats 4000000 in
set_option maxRecDepth 100000 in
theorem c_L_loose (l : Launch) (hlf : l.stackTraces = false) (g : GC) (M : HM) (x o : Nat) (p0 : Int32) {fs : List Value} (hx7 : M x = some (.inr (7, fs))) {res res2 : Rs} (hK : KM g l yX5_loose cX5_loose 2 (some .int) 7 1 6 [.ref x, .int p0] M res) (hO : hOut g o ["java/lang/UnsupportedOperationException"] res res2) : KH g l yL_loose cL_loose 4 [(0, 9, 12, 13)] 8 1 6 [.ref x, .int p0, .ref o] M res2 := by
  refine k_methH hlf (by decide) (Nat.le_of_ble_eq_true rfl) fun p e s m below meth c ls hc hr ht hM hS hl => ?_
  have hc : Cx g p l s m [.ref x, .int p0, .ref o].toArray meth c cL_loose 4 RL := hc
  have hx := hc.1
  have hb := hc.2.1
  have hl : lv_has ls 4 [(0, .ref x), (1, .int p0), (2, .ref o)] := hl
  refine lv_aload_n hx hb dL_loose_0 rfl (lv_at hl 2 rfl) ?_
  refine lv_iconst (v := 0) hx hb dL_loose_1 (by decide) ?_
  refine lv_aload_n hx hb dL_loose_2 rfl (lv_at hl 0 rfl) ?_
  refine lv_iload_n hx hb dL_loose_3 rfl (lv_at hl 1 rfl) ?_
  refine k_goV hc (As := [.int p0]) (rest := [.int 0, .ref o]) cw_L_42 rfl dL_loose_4 hK hx7 hM hS rfl hl.1 ⟨Nat.le_of_ble_eq_true rfl, Nat.le_of_ble_eq_true rfl⟩ ⟨Nat.le_of_ble_eq_true rfl, Nat.le_of_ble_eq_true rfl⟩ (Nat.le_of_ble_eq_true rfl) (fun v M1 H locs hres hM hS => ?_) (fun E M1 H locs q9 ce hres hM hS hcell hcv hcl => ?_)
  · rcases hO with ⟨w, M2, f, h1, h2, h3⟩ | ⟨k, E, M2, h0, h1, h3⟩
    · rw [hres] at h1
      cases h1
      refine lv_i2l hx hb dL_loose_7 rfl ?_
      refine k_last hc hM hS h2 in01 dL_loose_8 (fun H locs hM hS => ?_)
      refine lv_goto (tgt := 15) hx hb dL_loose_9 (by decide) ?_
      refine lv_iconst (v := 0) hx hb dL_loose_15 (by decide) ?_
      exact k_iret hc hr dL_loose_16 hM hS (Nat.le_of_ble_eq_true rfl) (Nat.le_of_ble_eq_true rfl) h3
    · rw [hres] at h1
      cases h1
  · rcases hO with ⟨w, M2, f, h1, h2, h3⟩ | ⟨k, E2, M2, h0, h1, h3⟩
    · rw [hres] at h1
      cases h1
    · rw [hres] at h1
      cases h1
      obtain ⟨rfl, rfl⟩ : k = 0 ∧ E = "java/lang/UnsupportedOperationException" := by
        match k, h0 with
        | 0, h0 => exact ⟨rfl, (Option.some.inj h0).symm⟩
        | k + 1, h0 => cases h0
      refine k_catch hc (E := "java/lang/UnsupportedOperationException") (by decide +kernel) [] ⟨0, 9, 12, 13⟩ [] ht (fun z hz => by cases hz) (by decide) (by decide) ql_L_13 hcell hcv hcl ?_
      refine lv_astore_n (lv' := [(3, .ref q9), (0, .ref x), (1, .int p0), (2, .ref o)]) hx hb dL_loose_12 rfl hl (by decide) rfl (fun ls hl => ?_)
      refine lv_iconst (v := 1) hx hb dL_loose_13 (by decide) ?_
      exact k_iret hc hr dL_loose_14 hM hS (Nat.le_of_ble_eq_true rfl) (Nat.le_of_ble_eq_true rfl) h3
set_option maxHeartbeats 4000000 in
set_option maxRecDepth 100000 in
theorem c_L_drink (l : Launch) (hlf : l.stackTraces = false) (g : GC) (M : HM) (x o : Nat) (p0 : Int32) {fs : List Value} (hx7 : M x = some (.inr (7, fs))) {res res2 : Rs} (hK : KM g l yX5_drink cX5_drink 2 (some .int) 7 1 6 [.ref x, .int p0] M res) (hO : hOut g o ["java/lang/UnsupportedOperationException"] res res2) : KH g l yL_drink cL_drink 4 [(0, 9, 12, 13)] 8 1 6 [.ref x, .int p0, .ref o] M res2 := by
  refine k_methH hlf (by decide) (Nat.le_of_ble_eq_true rfl) fun p e s m below meth c ls hc hr ht hM hS hl => ?_
  have hc : Cx g p l s m [.ref x, .int p0, .ref o].toArray meth c cL_drink 4 RL := hc
  have hx := hc.1
  have hb := hc.2.1
  have hl : lv_has ls 4 [(0, .ref x), (1, .int p0), (2, .ref o)] := hl
  refine lv_aload_n hx hb dL_drink_0 rfl (lv_at hl 2 rfl) ?_
  refine lv_iconst (v := 0) hx hb dL_drink_1 (by decide) ?_
  refine lv_aload_n hx hb dL_drink_2 rfl (lv_at hl 0 rfl) ?_
  refine lv_iload_n hx hb dL_drink_3 rfl (lv_at hl 1 rfl) ?_
  refine k_goV hc (As := [.int p0]) (rest := [.int 0, .ref o]) cw_L_45 rfl dL_drink_4 hK hx7 hM hS rfl hl.1 ⟨Nat.le_of_ble_eq_true rfl, Nat.le_of_ble_eq_true rfl⟩ ⟨Nat.le_of_ble_eq_true rfl, Nat.le_of_ble_eq_true rfl⟩ (Nat.le_of_ble_eq_true rfl) (fun v M1 H locs hres hM hS => ?_) (fun E M1 H locs q9 ce hres hM hS hcell hcv hcl => ?_)
  · rcases hO with ⟨w, M2, f, h1, h2, h3⟩ | ⟨k, E, M2, h0, h1, h3⟩
    · rw [hres] at h1
      cases h1
      refine lv_i2l hx hb dL_drink_7 rfl ?_
      refine k_last hc hM hS h2 in01 dL_drink_8 (fun H locs hM hS => ?_)
      refine lv_goto (tgt := 15) hx hb dL_drink_9 (by decide) ?_
      refine lv_iconst (v := 0) hx hb dL_drink_15 (by decide) ?_
      exact k_iret hc hr dL_drink_16 hM hS (Nat.le_of_ble_eq_true rfl) (Nat.le_of_ble_eq_true rfl) h3
    · rw [hres] at h1
      cases h1
  · rcases hO with ⟨w, M2, f, h1, h2, h3⟩ | ⟨k, E2, M2, h0, h1, h3⟩
    · rw [hres] at h1
      cases h1
    · rw [hres] at h1
      cases h1
      obtain ⟨rfl, rfl⟩ : k = 0 ∧ E = "java/lang/UnsupportedOperationException" := by
        match k, h0 with
        | 0, h0 => exact ⟨rfl, (Option.some.inj h0).symm⟩
        | k + 1, h0 => cases h0
      refine k_catch hc (E := "java/lang/UnsupportedOperationException") (by decide +kernel) [] ⟨0, 9, 12, 13⟩ [] ht (fun z hz => by cases hz) (by decide) (by decide) ql_L_13 hcell hcv hcl ?_
      refine lv_astore_n (lv' := [(3, .ref q9), (0, .ref x), (1, .int p0), (2, .ref o)]) hx hb dL_drink_12 rfl hl (by decide) rfl (fun ls hl => ?_)
      refine lv_iconst (v := 1) hx hb dL_drink_13 (by decide) ?_
      exact k_iret hc hr dL_drink_14 hM hS (Nat.le_of_ble_eq_true rfl) (Nat.le_of_ble_eq_true rfl) h3
set_option maxHeartbeats 4000000 in
set_option maxRecDepth 100000 in
theorem c_L_water (l : Launch) (hlf : l.stackTraces = false) (g : GC) (M : HM) (x o : Nat) (p0 : Int32) {fs : List Value} (hx7 : M x = some (.inr (7, fs))) {res res2 : Rs} (hK : KM g l yX5_water cX5_water 2 (some .int) 7 1 6 [.ref x, .int p0] M res) (hO : hOut g o ["java/lang/UnsupportedOperationException"] res res2) : KH g l yL_water cL_water 4 [(0, 9, 12, 13)] 8 1 6 [.ref x, .int p0, .ref o] M res2 := by
  refine k_methH hlf (by decide) (Nat.le_of_ble_eq_true rfl) fun p e s m below meth c ls hc hr ht hM hS hl => ?_
  have hc : Cx g p l s m [.ref x, .int p0, .ref o].toArray meth c cL_water 4 RL := hc
  have hx := hc.1
  have hb := hc.2.1
  have hl : lv_has ls 4 [(0, .ref x), (1, .int p0), (2, .ref o)] := hl
  refine lv_aload_n hx hb dL_water_0 rfl (lv_at hl 2 rfl) ?_
  refine lv_iconst (v := 0) hx hb dL_water_1 (by decide) ?_
  refine lv_aload_n hx hb dL_water_2 rfl (lv_at hl 0 rfl) ?_
  refine lv_iload_n hx hb dL_water_3 rfl (lv_at hl 1 rfl) ?_
  refine k_goV hc (As := [.int p0]) (rest := [.int 0, .ref o]) cw_L_48 rfl dL_water_4 hK hx7 hM hS rfl hl.1 ⟨Nat.le_of_ble_eq_true rfl, Nat.le_of_ble_eq_true rfl⟩ ⟨Nat.le_of_ble_eq_true rfl, Nat.le_of_ble_eq_true rfl⟩ (Nat.le_of_ble_eq_true rfl) (fun v M1 H locs hres hM hS => ?_) (fun E M1 H locs q9 ce hres hM hS hcell hcv hcl => ?_)
  · rcases hO with ⟨w, M2, f, h1, h2, h3⟩ | ⟨k, E, M2, h0, h1, h3⟩
    · rw [hres] at h1
      cases h1
      refine lv_i2l hx hb dL_water_7 rfl ?_
      refine k_last hc hM hS h2 in01 dL_water_8 (fun H locs hM hS => ?_)
      refine lv_goto (tgt := 15) hx hb dL_water_9 (by decide) ?_
      refine lv_iconst (v := 0) hx hb dL_water_15 (by decide) ?_
      exact k_iret hc hr dL_water_16 hM hS (Nat.le_of_ble_eq_true rfl) (Nat.le_of_ble_eq_true rfl) h3
    · rw [hres] at h1
      cases h1
  · rcases hO with ⟨w, M2, f, h1, h2, h3⟩ | ⟨k, E2, M2, h0, h1, h3⟩
    · rw [hres] at h1
      cases h1
    · rw [hres] at h1
      cases h1
      obtain ⟨rfl, rfl⟩ : k = 0 ∧ E = "java/lang/UnsupportedOperationException" := by
        match k, h0 with
        | 0, h0 => exact ⟨rfl, (Option.some.inj h0).symm⟩
        | k + 1, h0 => cases h0
      refine k_catch hc (E := "java/lang/UnsupportedOperationException") (by decide +kernel) [] ⟨0, 9, 12, 13⟩ [] ht (fun z hz => by cases hz) (by decide) (by decide) ql_L_13 hcell hcv hcl ?_
      refine lv_astore_n (lv' := [(3, .ref q9), (0, .ref x), (1, .int p0), (2, .ref o)]) hx hb dL_water_12 rfl hl (by decide) rfl (fun ls hl => ?_)
      refine lv_iconst (v := 1) hx hb dL_water_13 (by decide) ?_
      exact k_iret hc hr dL_water_14 hM hS (Nat.le_of_ble_eq_true rfl) (Nat.le_of_ble_eq_true rfl) h3
set_option maxHeartbeats 4000000 in
set_option maxRecDepth 100000 in
theorem c_L_hours (l : Launch) (hlf : l.stackTraces = false) (g : GC) (M : HM) (x o : Nat) (p0 : Int32) {fs : List Value} (hx7 : M x = some (.inr (7, fs))) {res res2 : Rs} (hK : KM g l yX5_hours cX5_hours 2 (some .int) 9 1 6 [.ref x, .int p0] M res) (hO : hOut g o ["java/lang/UnsupportedOperationException"] res res2) : KH g l yL_hours cL_hours 4 [(0, 9, 12, 13)] 10 1 6 [.ref x, .int p0, .ref o] M res2 := by
  refine k_methH hlf (by decide) (Nat.le_of_ble_eq_true rfl) fun p e s m below meth c ls hc hr ht hM hS hl => ?_
  have hc : Cx g p l s m [.ref x, .int p0, .ref o].toArray meth c cL_hours 4 RL := hc
  have hx := hc.1
  have hb := hc.2.1
  have hl : lv_has ls 4 [(0, .ref x), (1, .int p0), (2, .ref o)] := hl
  refine lv_aload_n hx hb dL_hours_0 rfl (lv_at hl 2 rfl) ?_
  refine lv_iconst (v := 0) hx hb dL_hours_1 (by decide) ?_
  refine lv_aload_n hx hb dL_hours_2 rfl (lv_at hl 0 rfl) ?_
  refine lv_iload_n hx hb dL_hours_3 rfl (lv_at hl 1 rfl) ?_
  refine k_goV hc (As := [.int p0]) (rest := [.int 0, .ref o]) cw_L_51 rfl dL_hours_4 hK hx7 hM hS rfl hl.1 ⟨Nat.le_of_ble_eq_true rfl, Nat.le_of_ble_eq_true rfl⟩ ⟨Nat.le_of_ble_eq_true rfl, Nat.le_of_ble_eq_true rfl⟩ (Nat.le_of_ble_eq_true rfl) (fun v M1 H locs hres hM hS => ?_) (fun E M1 H locs q9 ce hres hM hS hcell hcv hcl => ?_)
  · rcases hO with ⟨w, M2, f, h1, h2, h3⟩ | ⟨k, E, M2, h0, h1, h3⟩
    · rw [hres] at h1
      cases h1
      refine lv_i2l hx hb dL_hours_7 rfl ?_
      refine k_last hc hM hS h2 in01 dL_hours_8 (fun H locs hM hS => ?_)
      refine lv_goto (tgt := 15) hx hb dL_hours_9 (by decide) ?_
      refine lv_iconst (v := 0) hx hb dL_hours_15 (by decide) ?_
      exact k_iret hc hr dL_hours_16 hM hS (Nat.le_of_ble_eq_true rfl) (Nat.le_of_ble_eq_true rfl) h3
    · rw [hres] at h1
      cases h1
  · rcases hO with ⟨w, M2, f, h1, h2, h3⟩ | ⟨k, E2, M2, h0, h1, h3⟩
    · rw [hres] at h1
      cases h1
    · rw [hres] at h1
      cases h1
      obtain ⟨rfl, rfl⟩ : k = 0 ∧ E = "java/lang/UnsupportedOperationException" := by
        match k, h0 with
        | 0, h0 => exact ⟨rfl, (Option.some.inj h0).symm⟩
        | k + 1, h0 => cases h0
      refine k_catch hc (E := "java/lang/UnsupportedOperationException") (by decide +kernel) [] ⟨0, 9, 12, 13⟩ [] ht (fun z hz => by cases hz) (by decide) (by decide) ql_L_13 hcell hcv hcl ?_
      refine lv_astore_n (lv' := [(3, .ref q9), (0, .ref x), (1, .int p0), (2, .ref o)]) hx hb dL_hours_12 rfl hl (by decide) rfl (fun ls hl => ?_)
      refine lv_iconst (v := 1) hx hb dL_hours_13 (by decide) ?_
      exact k_iret hc hr dL_hours_14 hM hS (Nat.le_of_ble_eq_true rfl) (Nat.le_of_ble_eq_true rfl) h3
set_option maxHeartbeats 4000000 in
set_option maxRecDepth 100000 in
theorem c_L_stakeAt (l : Launch) (hlf : l.stackTraces = false) (g : GC) (M : HM) (x o : Nat) (p0 : Int32) {fs : List Value} (hx7 : M x = some (.inr (7, fs))) {res res2 : Rs} (hK : KM g l yX5_stakeAt cX5_stakeAt 2 (some .int) 7 3 18 [.ref x, .int p0] M res) (hO : hOut g o ["java/lang/IndexOutOfBoundsException"] res res2) : KH g l yL_stakeAt cL_stakeAt 4 [(0, 9, 12, 57)] 8 3 18 [.ref x, .int p0, .ref o] M res2 := by
  refine k_methH hlf (by decide) (Nat.le_of_ble_eq_true rfl) fun p e s m below meth c ls hc hr ht hM hS hl => ?_
  have hc : Cx g p l s m [.ref x, .int p0, .ref o].toArray meth c cL_stakeAt 4 RL := hc
  have hx := hc.1
  have hb := hc.2.1
  have hl : lv_has ls 4 [(0, .ref x), (1, .int p0), (2, .ref o)] := hl
  refine lv_aload_n hx hb dL_stakeAt_0 rfl (lv_at hl 2 rfl) ?_
  refine lv_iconst (v := 0) hx hb dL_stakeAt_1 (by decide) ?_
  refine lv_aload_n hx hb dL_stakeAt_2 rfl (lv_at hl 0 rfl) ?_
  refine lv_iload_n hx hb dL_stakeAt_3 rfl (lv_at hl 1 rfl) ?_
  refine k_goV hc (As := [.int p0]) (rest := [.int 0, .ref o]) cw_L_54 rfl dL_stakeAt_4 hK hx7 hM hS rfl hl.1 ⟨Nat.le_of_ble_eq_true rfl, Nat.le_of_ble_eq_true rfl⟩ ⟨Nat.le_of_ble_eq_true rfl, Nat.le_of_ble_eq_true rfl⟩ (Nat.le_of_ble_eq_true rfl) (fun v M1 H locs hres hM hS => ?_) (fun E M1 H locs q9 ce hres hM hS hcell hcv hcl => ?_)
  · rcases hO with ⟨w, M2, f, h1, h2, h3⟩ | ⟨k, E, M2, h0, h1, h3⟩
    · rw [hres] at h1
      cases h1
      refine lv_i2l hx hb dL_stakeAt_7 rfl ?_
      refine k_last hc hM hS h2 in01 dL_stakeAt_8 (fun H locs hM hS => ?_)
      refine lv_goto (tgt := 15) hx hb dL_stakeAt_9 (by decide) ?_
      refine lv_iconst (v := 0) hx hb dL_stakeAt_15 (by decide) ?_
      exact k_iret hc hr dL_stakeAt_16 hM hS (Nat.le_of_ble_eq_true rfl) (Nat.le_of_ble_eq_true rfl) h3
    · rw [hres] at h1
      cases h1
  · rcases hO with ⟨w, M2, f, h1, h2, h3⟩ | ⟨k, E2, M2, h0, h1, h3⟩
    · rw [hres] at h1
      cases h1
    · rw [hres] at h1
      cases h1
      obtain ⟨rfl, rfl⟩ : k = 0 ∧ E = "java/lang/IndexOutOfBoundsException" := by
        match k, h0 with
        | 0, h0 => exact ⟨rfl, (Option.some.inj h0).symm⟩
        | k + 1, h0 => cases h0
      refine k_catch hc (E := "java/lang/IndexOutOfBoundsException") (by decide +kernel) [] ⟨0, 9, 12, 57⟩ [] ht (fun z hz => by cases hz) (by decide) (by decide) ql_L_57 hcell hcv hcl ?_
      refine lv_astore_n (lv' := [(3, .ref q9), (0, .ref x), (1, .int p0), (2, .ref o)]) hx hb dL_stakeAt_12 rfl hl (by decide) rfl (fun ls hl => ?_)
      refine lv_iconst (v := 1) hx hb dL_stakeAt_13 (by decide) ?_
      exact k_iret hc hr dL_stakeAt_14 hM hS (Nat.le_of_ble_eq_true rfl) (Nat.le_of_ble_eq_true rfl) h3
set_option maxHeartbeats 4000000 in
set_option maxRecDepth 100000 in
theorem c_L_postOf (l : Launch) (hlf : l.stackTraces = false) (g : GC) (M : HM) (x o : Nat) (p0 p1 : Int32) {fs : List Value} (hx7 : M x = some (.inr (7, fs))) {res res2 : Rs} (hK : KM g l yX5_postOf cX5_postOf 3 (some .int) 7 3 18 [.ref x, .int p0, .int p1] M res) (hO : hOut g o ["java/lang/IndexOutOfBoundsException"] res res2) : KH g l yL_postOf cL_postOf 5 [(0, 10, 13, 57)] 8 3 18 [.ref x, .int p0, .int p1, .ref o] M res2 := by
  refine k_methH hlf (by decide) (Nat.le_of_ble_eq_true rfl) fun p e s m below meth c ls hc hr ht hM hS hl => ?_
  have hc : Cx g p l s m [.ref x, .int p0, .int p1, .ref o].toArray meth c cL_postOf 5 RL := hc
  have hx := hc.1
  have hb := hc.2.1
  have hl : lv_has ls 5 [(0, .ref x), (1, .int p0), (2, .int p1), (3, .ref o)] := hl
  refine lv_aload_n hx hb dL_postOf_0 rfl (lv_at hl 3 rfl) ?_
  refine lv_iconst (v := 0) hx hb dL_postOf_1 (by decide) ?_
  refine lv_aload_n hx hb dL_postOf_2 rfl (lv_at hl 0 rfl) ?_
  refine lv_iload_n hx hb dL_postOf_3 rfl (lv_at hl 1 rfl) ?_
  refine lv_iload_n hx hb dL_postOf_4 rfl (lv_at hl 2 rfl) ?_
  refine k_goV hc (As := [.int p0, .int p1]) (rest := [.int 0, .ref o]) cw_L_59 rfl dL_postOf_5 hK hx7 hM hS rfl hl.1 ⟨Nat.le_of_ble_eq_true rfl, Nat.le_of_ble_eq_true rfl⟩ ⟨Nat.le_of_ble_eq_true rfl, Nat.le_of_ble_eq_true rfl⟩ (Nat.le_of_ble_eq_true rfl) (fun v M1 H locs hres hM hS => ?_) (fun E M1 H locs q9 ce hres hM hS hcell hcv hcl => ?_)
  · rcases hO with ⟨w, M2, f, h1, h2, h3⟩ | ⟨k, E, M2, h0, h1, h3⟩
    · rw [hres] at h1
      cases h1
      refine lv_i2l hx hb dL_postOf_8 rfl ?_
      refine k_last hc hM hS h2 in01 dL_postOf_9 (fun H locs hM hS => ?_)
      refine lv_goto (tgt := 17) hx hb dL_postOf_10 (by decide) ?_
      refine lv_iconst (v := 0) hx hb dL_postOf_17 (by decide) ?_
      exact k_iret hc hr dL_postOf_18 hM hS (Nat.le_of_ble_eq_true rfl) (Nat.le_of_ble_eq_true rfl) h3
    · rw [hres] at h1
      cases h1
  · rcases hO with ⟨w, M2, f, h1, h2, h3⟩ | ⟨k, E2, M2, h0, h1, h3⟩
    · rw [hres] at h1
      cases h1
    · rw [hres] at h1
      cases h1
      obtain ⟨rfl, rfl⟩ : k = 0 ∧ E = "java/lang/IndexOutOfBoundsException" := by
        match k, h0 with
        | 0, h0 => exact ⟨rfl, (Option.some.inj h0).symm⟩
        | k + 1, h0 => cases h0
      refine k_catch hc (E := "java/lang/IndexOutOfBoundsException") (by decide +kernel) [] ⟨0, 10, 13, 57⟩ [] ht (fun z hz => by cases hz) (by decide) (by decide) ql_L_57 hcell hcv hcl ?_
      refine lv_astore (lv' := [(4, .ref q9), (0, .ref x), (1, .int p0), (2, .int p1), (3, .ref o)]) hx hb dL_postOf_13 hl (by decide) rfl (fun ls hl => ?_)
      refine lv_iconst (v := 1) hx hb dL_postOf_15 (by decide) ?_
      exact k_iret hc hr dL_postOf_16 hM hS (Nat.le_of_ble_eq_true rfl) (Nat.le_of_ble_eq_true rfl) h3
set_option maxHeartbeats 4000000 in
set_option maxRecDepth 100000 in
theorem c_L_camelOf (l : Launch) (hlf : l.stackTraces = false) (g : GC) (M : HM) (x o : Nat) (p0 p1 : Int32) {fs : List Value} (hx7 : M x = some (.inr (7, fs))) {res res2 : Rs} (hK : KM g l yX5_camelOf cX5_camelOf 3 (some .int) 7 3 18 [.ref x, .int p0, .int p1] M res) (hO : hOut g o ["java/lang/IndexOutOfBoundsException", "java/lang/IllegalArgumentException"] res res2) : KH g l yL_camelOf cL_camelOf 5 [(0, 10, 13, 57), (0, 10, 17, 66)] 8 3 18 [.ref x, .int p0, .int p1, .ref o] M res2 := by
  refine k_methH hlf (by decide) (Nat.le_of_ble_eq_true rfl) fun p e s m below meth c ls hc hr ht hM hS hl => ?_
  have hc : Cx g p l s m [.ref x, .int p0, .int p1, .ref o].toArray meth c cL_camelOf 5 RL := hc
  have hx := hc.1
  have hb := hc.2.1
  have hl : lv_has ls 5 [(0, .ref x), (1, .int p0), (2, .int p1), (3, .ref o)] := hl
  refine lv_aload_n hx hb dL_camelOf_0 rfl (lv_at hl 3 rfl) ?_
  refine lv_iconst (v := 0) hx hb dL_camelOf_1 (by decide) ?_
  refine lv_aload_n hx hb dL_camelOf_2 rfl (lv_at hl 0 rfl) ?_
  refine lv_iload_n hx hb dL_camelOf_3 rfl (lv_at hl 1 rfl) ?_
  refine lv_iload_n hx hb dL_camelOf_4 rfl (lv_at hl 2 rfl) ?_
  refine k_goV hc (As := [.int p0, .int p1]) (rest := [.int 0, .ref o]) cw_L_63 rfl dL_camelOf_5 hK hx7 hM hS rfl hl.1 ⟨Nat.le_of_ble_eq_true rfl, Nat.le_of_ble_eq_true rfl⟩ ⟨Nat.le_of_ble_eq_true rfl, Nat.le_of_ble_eq_true rfl⟩ (Nat.le_of_ble_eq_true rfl) (fun v M1 H locs hres hM hS => ?_) (fun E M1 H locs q9 ce hres hM hS hcell hcv hcl => ?_)
  · rcases hO with ⟨w, M2, f, h1, h2, h3⟩ | ⟨k, E, M2, h0, h1, h3⟩
    · rw [hres] at h1
      cases h1
      refine lv_i2l hx hb dL_camelOf_8 rfl ?_
      refine k_last hc hM hS h2 in01 dL_camelOf_9 (fun H locs hM hS => ?_)
      refine lv_goto (tgt := 21) hx hb dL_camelOf_10 (by decide) ?_
      refine lv_iconst (v := 0) hx hb dL_camelOf_21 (by decide) ?_
      exact k_iret hc hr dL_camelOf_22 hM hS (Nat.le_of_ble_eq_true rfl) (Nat.le_of_ble_eq_true rfl) h3
    · rw [hres] at h1
      cases h1
  · rcases hO with ⟨w, M2, f, h1, h2, h3⟩ | ⟨k, E2, M2, h0, h1, h3⟩
    · rw [hres] at h1
      cases h1
    · rw [hres] at h1
      cases h1
      have h0 : (k = 0 ∧ E = "java/lang/IndexOutOfBoundsException") ∨ (k = 1 ∧ E = "java/lang/IllegalArgumentException") := by
        match k, h0 with
        | 0, h0 => exact Or.inl ⟨rfl, (Option.some.inj h0).symm⟩
        | 1, h0 => exact Or.inr ⟨rfl, (Option.some.inj h0).symm⟩
        | k + 2, h0 => cases h0
      rcases h0 with ⟨rfl, rfl⟩ | ⟨rfl, rfl⟩
      · refine k_catch hc (E := "java/lang/IndexOutOfBoundsException") (by decide +kernel) [] ⟨0, 10, 13, 57⟩ [⟨0, 10, 17, 66⟩] ht (fun z hz => by cases hz) (by decide) (by decide) ql_L_57 hcell hcv hcl ?_
        refine lv_astore (lv' := [(4, .ref q9), (0, .ref x), (1, .int p0), (2, .int p1), (3, .ref o)]) hx hb dL_camelOf_13 hl (by decide) rfl (fun ls hl => ?_)
        refine lv_iconst (v := 1) hx hb dL_camelOf_15 (by decide) ?_
        exact k_iret hc hr dL_camelOf_16 hM hS (Nat.le_of_ble_eq_true rfl) (Nat.le_of_ble_eq_true rfl) h3
      · refine k_catch hc (E := "java/lang/IllegalArgumentException") (by decide +kernel) [⟨0, 10, 13, 57⟩] ⟨0, 10, 17, 66⟩ [] ht (fun z hz => by rcases List.mem_singleton.mp hz with rfl; exact ⟨by decide, _, ql_L_57, by decide⟩) (by decide) (by decide) ql_L_66 hcell hcv hcl ?_
        refine lv_astore (lv' := [(4, .ref q9), (0, .ref x), (1, .int p0), (2, .int p1), (3, .ref o)]) hx hb dL_camelOf_17 hl (by decide) rfl (fun ls hl => ?_)
        refine lv_iconst (v := 2) hx hb dL_camelOf_19 (by decide) ?_
        exact k_iret hc hr dL_camelOf_20 hM hS (Nat.le_of_ble_eq_true rfl) (Nat.le_of_ble_eq_true rfl) h3
set_option maxHeartbeats 4000000 in
set_option maxRecDepth 100000 in
theorem c_L_drawnAt (l : Launch) (hlf : l.stackTraces = false) (g : GC) (M : HM) (x o : Nat) (p0 p1 : Int32) {fs : List Value} (hx7 : M x = some (.inr (7, fs))) {res res2 : Rs} (hK : KM g l yX5_drawnAt cX5_drawnAt 4 (some .int) 7 3 18 [.ref x, .int p0, .int p1] M res) (hO : hOut g o ["java/lang/IndexOutOfBoundsException", "java/util/NoSuchElementException"] res res2) : KH g l yL_drawnAt cL_drawnAt 5 [(0, 10, 13, 57), (0, 10, 17, 71)] 8 3 18 [.ref x, .int p0, .int p1, .ref o] M res2 := by
  refine k_methH hlf (by decide) (Nat.le_of_ble_eq_true rfl) fun p e s m below meth c ls hc hr ht hM hS hl => ?_
  have hc : Cx g p l s m [.ref x, .int p0, .int p1, .ref o].toArray meth c cL_drawnAt 5 RL := hc
  have hx := hc.1
  have hb := hc.2.1
  have hl : lv_has ls 5 [(0, .ref x), (1, .int p0), (2, .int p1), (3, .ref o)] := hl
  refine lv_aload_n hx hb dL_drawnAt_0 rfl (lv_at hl 3 rfl) ?_
  refine lv_iconst (v := 0) hx hb dL_drawnAt_1 (by decide) ?_
  refine lv_aload_n hx hb dL_drawnAt_2 rfl (lv_at hl 0 rfl) ?_
  refine lv_iload_n hx hb dL_drawnAt_3 rfl (lv_at hl 1 rfl) ?_
  refine lv_iload_n hx hb dL_drawnAt_4 rfl (lv_at hl 2 rfl) ?_
  refine k_goV hc (As := [.int p0, .int p1]) (rest := [.int 0, .ref o]) cw_L_68 rfl dL_drawnAt_5 hK hx7 hM hS rfl hl.1 ⟨Nat.le_of_ble_eq_true rfl, Nat.le_of_ble_eq_true rfl⟩ ⟨Nat.le_of_ble_eq_true rfl, Nat.le_of_ble_eq_true rfl⟩ (Nat.le_of_ble_eq_true rfl) (fun v M1 H locs hres hM hS => ?_) (fun E M1 H locs q9 ce hres hM hS hcell hcv hcl => ?_)
  · rcases hO with ⟨w, M2, f, h1, h2, h3⟩ | ⟨k, E, M2, h0, h1, h3⟩
    · rw [hres] at h1
      cases h1
      refine lv_i2l hx hb dL_drawnAt_8 rfl ?_
      refine k_last hc hM hS h2 in01 dL_drawnAt_9 (fun H locs hM hS => ?_)
      refine lv_goto (tgt := 21) hx hb dL_drawnAt_10 (by decide) ?_
      refine lv_iconst (v := 0) hx hb dL_drawnAt_21 (by decide) ?_
      exact k_iret hc hr dL_drawnAt_22 hM hS (Nat.le_of_ble_eq_true rfl) (Nat.le_of_ble_eq_true rfl) h3
    · rw [hres] at h1
      cases h1
  · rcases hO with ⟨w, M2, f, h1, h2, h3⟩ | ⟨k, E2, M2, h0, h1, h3⟩
    · rw [hres] at h1
      cases h1
    · rw [hres] at h1
      cases h1
      have h0 : (k = 0 ∧ E = "java/lang/IndexOutOfBoundsException") ∨ (k = 1 ∧ E = "java/util/NoSuchElementException") := by
        match k, h0 with
        | 0, h0 => exact Or.inl ⟨rfl, (Option.some.inj h0).symm⟩
        | 1, h0 => exact Or.inr ⟨rfl, (Option.some.inj h0).symm⟩
        | k + 2, h0 => cases h0
      rcases h0 with ⟨rfl, rfl⟩ | ⟨rfl, rfl⟩
      · refine k_catch hc (E := "java/lang/IndexOutOfBoundsException") (by decide +kernel) [] ⟨0, 10, 13, 57⟩ [⟨0, 10, 17, 71⟩] ht (fun z hz => by cases hz) (by decide) (by decide) ql_L_57 hcell hcv hcl ?_
        refine lv_astore (lv' := [(4, .ref q9), (0, .ref x), (1, .int p0), (2, .int p1), (3, .ref o)]) hx hb dL_drawnAt_13 hl (by decide) rfl (fun ls hl => ?_)
        refine lv_iconst (v := 1) hx hb dL_drawnAt_15 (by decide) ?_
        exact k_iret hc hr dL_drawnAt_16 hM hS (Nat.le_of_ble_eq_true rfl) (Nat.le_of_ble_eq_true rfl) h3
      · refine k_catch hc (E := "java/util/NoSuchElementException") (by decide +kernel) [⟨0, 10, 13, 57⟩] ⟨0, 10, 17, 71⟩ [] ht (fun z hz => by rcases List.mem_singleton.mp hz with rfl; exact ⟨by decide, _, ql_L_57, by decide⟩) (by decide) (by decide) ql_L_71 hcell hcv hcl ?_
        refine lv_astore (lv' := [(4, .ref q9), (0, .ref x), (1, .int p0), (2, .int p1), (3, .ref o)]) hx hb dL_drawnAt_17 hl (by decide) rfl (fun ls hl => ?_)
        refine lv_iconst (v := 2) hx hb dL_drawnAt_19 (by decide) ?_
        exact k_iret hc hr dL_drawnAt_20 hM hS (Nat.le_of_ble_eq_true rfl) (Nat.le_of_ble_eq_true rfl) h3
set_option maxHeartbeats 4000000 in
set_option maxRecDepth 100000 in
theorem c_L_wrongBy (l : Launch) (hlf : l.stackTraces = false) (g : GC) (M : HM) (x o : Nat) (p0 : Int32) {fs : List Value} (hx7 : M x = some (.inr (7, fs))) {res res2 : Rs} (hK : KM g l yX5_wrongBy cX5_wrongBy 5 (some .int) 7 3 18 [.ref x, .int p0] M res) (hO : hOut g o ["java/lang/IndexOutOfBoundsException"] res res2) : KH g l yL_wrongBy cL_wrongBy 4 [(0, 9, 12, 57)] 8 3 18 [.ref x, .int p0, .ref o] M res2 := by
  refine k_methH hlf (by decide) (Nat.le_of_ble_eq_true rfl) fun p e s m below meth c ls hc hr ht hM hS hl => ?_
  have hc : Cx g p l s m [.ref x, .int p0, .ref o].toArray meth c cL_wrongBy 4 RL := hc
  have hx := hc.1
  have hb := hc.2.1
  have hl : lv_has ls 4 [(0, .ref x), (1, .int p0), (2, .ref o)] := hl
  refine lv_aload_n hx hb dL_wrongBy_0 rfl (lv_at hl 2 rfl) ?_
  refine lv_iconst (v := 0) hx hb dL_wrongBy_1 (by decide) ?_
  refine lv_aload_n hx hb dL_wrongBy_2 rfl (lv_at hl 0 rfl) ?_
  refine lv_iload_n hx hb dL_wrongBy_3 rfl (lv_at hl 1 rfl) ?_
  refine k_goV hc (As := [.int p0]) (rest := [.int 0, .ref o]) cw_L_73 rfl dL_wrongBy_4 hK hx7 hM hS rfl hl.1 ⟨Nat.le_of_ble_eq_true rfl, Nat.le_of_ble_eq_true rfl⟩ ⟨Nat.le_of_ble_eq_true rfl, Nat.le_of_ble_eq_true rfl⟩ (Nat.le_of_ble_eq_true rfl) (fun v M1 H locs hres hM hS => ?_) (fun E M1 H locs q9 ce hres hM hS hcell hcv hcl => ?_)
  · rcases hO with ⟨w, M2, f, h1, h2, h3⟩ | ⟨k, E, M2, h0, h1, h3⟩
    · rw [hres] at h1
      cases h1
      refine lv_i2l hx hb dL_wrongBy_7 rfl ?_
      refine k_last hc hM hS h2 in01 dL_wrongBy_8 (fun H locs hM hS => ?_)
      refine lv_goto (tgt := 15) hx hb dL_wrongBy_9 (by decide) ?_
      refine lv_iconst (v := 0) hx hb dL_wrongBy_15 (by decide) ?_
      exact k_iret hc hr dL_wrongBy_16 hM hS (Nat.le_of_ble_eq_true rfl) (Nat.le_of_ble_eq_true rfl) h3
    · rw [hres] at h1
      cases h1
  · rcases hO with ⟨w, M2, f, h1, h2, h3⟩ | ⟨k, E2, M2, h0, h1, h3⟩
    · rw [hres] at h1
      cases h1
    · rw [hres] at h1
      cases h1
      obtain ⟨rfl, rfl⟩ : k = 0 ∧ E = "java/lang/IndexOutOfBoundsException" := by
        match k, h0 with
        | 0, h0 => exact ⟨rfl, (Option.some.inj h0).symm⟩
        | k + 1, h0 => cases h0
      refine k_catch hc (E := "java/lang/IndexOutOfBoundsException") (by decide +kernel) [] ⟨0, 9, 12, 57⟩ [] ht (fun z hz => by cases hz) (by decide) (by decide) ql_L_57 hcell hcv hcl ?_
      refine lv_astore_n (lv' := [(3, .ref q9), (0, .ref x), (1, .int p0), (2, .ref o)]) hx hb dL_wrongBy_12 rfl hl (by decide) rfl (fun ls hl => ?_)
      refine lv_iconst (v := 1) hx hb dL_wrongBy_13 (by decide) ?_
      exact k_iret hc hr dL_wrongBy_14 hM hS (Nat.le_of_ble_eq_true rfl) (Nat.le_of_ble_eq_true rfl) h3
set_option maxHeartbeats 4000000 in
set_option maxRecDepth 100000 in
theorem c_L_seems (l : Launch) (hlf : l.stackTraces = false) (g : GC) (M : HM) (x o : Nat) (p0 p1 : Int32) {fs : List Value} (hx7 : M x = some (.inr (7, fs))) {res res2 : Rs} (hK : KM g l yX5_seems cX5_seems 3 (some .int) 8 3 18 [.ref x, .int p0, .int p1] M res) (hO : hOut g o ["java/lang/IndexOutOfBoundsException"] res res2) : KH g l yL_seems cL_seems 5 [(0, 10, 13, 57)] 9 3 18 [.ref x, .int p0, .int p1, .ref o] M res2 := by
  refine k_methH hlf (by decide) (Nat.le_of_ble_eq_true rfl) fun p e s m below meth c ls hc hr ht hM hS hl => ?_
  have hc : Cx g p l s m [.ref x, .int p0, .int p1, .ref o].toArray meth c cL_seems 5 RL := hc
  have hx := hc.1
  have hb := hc.2.1
  have hl : lv_has ls 5 [(0, .ref x), (1, .int p0), (2, .int p1), (3, .ref o)] := hl
  refine lv_aload_n hx hb dL_seems_0 rfl (lv_at hl 3 rfl) ?_
  refine lv_iconst (v := 0) hx hb dL_seems_1 (by decide) ?_
  refine lv_aload_n hx hb dL_seems_2 rfl (lv_at hl 0 rfl) ?_
  refine lv_iload_n hx hb dL_seems_3 rfl (lv_at hl 1 rfl) ?_
  refine lv_iload_n hx hb dL_seems_4 rfl (lv_at hl 2 rfl) ?_
  refine k_goV hc (As := [.int p0, .int p1]) (rest := [.int 0, .ref o]) cw_L_76 rfl dL_seems_5 hK hx7 hM hS rfl hl.1 ⟨Nat.le_of_ble_eq_true rfl, Nat.le_of_ble_eq_true rfl⟩ ⟨Nat.le_of_ble_eq_true rfl, Nat.le_of_ble_eq_true rfl⟩ (Nat.le_of_ble_eq_true rfl) (fun v M1 H locs hres hM hS => ?_) (fun E M1 H locs q9 ce hres hM hS hcell hcv hcl => ?_)
  · rcases hO with ⟨w, M2, f, h1, h2, h3⟩ | ⟨k, E, M2, h0, h1, h3⟩
    · rw [hres] at h1
      cases h1
      refine lv_i2l hx hb dL_seems_8 rfl ?_
      refine k_last hc hM hS h2 in01 dL_seems_9 (fun H locs hM hS => ?_)
      refine lv_goto (tgt := 17) hx hb dL_seems_10 (by decide) ?_
      refine lv_iconst (v := 0) hx hb dL_seems_17 (by decide) ?_
      exact k_iret hc hr dL_seems_18 hM hS (Nat.le_of_ble_eq_true rfl) (Nat.le_of_ble_eq_true rfl) h3
    · rw [hres] at h1
      cases h1
  · rcases hO with ⟨w, M2, f, h1, h2, h3⟩ | ⟨k, E2, M2, h0, h1, h3⟩
    · rw [hres] at h1
      cases h1
    · rw [hres] at h1
      cases h1
      obtain ⟨rfl, rfl⟩ : k = 0 ∧ E = "java/lang/IndexOutOfBoundsException" := by
        match k, h0 with
        | 0, h0 => exact ⟨rfl, (Option.some.inj h0).symm⟩
        | k + 1, h0 => cases h0
      refine k_catch hc (E := "java/lang/IndexOutOfBoundsException") (by decide +kernel) [] ⟨0, 10, 13, 57⟩ [] ht (fun z hz => by cases hz) (by decide) (by decide) ql_L_57 hcell hcv hcl ?_
      refine lv_astore (lv' := [(4, .ref q9), (0, .ref x), (1, .int p0), (2, .int p1), (3, .ref o)]) hx hb dL_seems_13 hl (by decide) rfl (fun ls hl => ?_)
      refine lv_iconst (v := 1) hx hb dL_seems_15 (by decide) ?_
      exact k_iret hc hr dL_seems_16 hM hS (Nat.le_of_ble_eq_true rfl) (Nat.le_of_ble_eq_true rfl) h3
set_option maxHeartbeats 4000000 in
set_option maxRecDepth 100000 in
theorem c_L_seemsAgain (l : Launch) (hlf : l.stackTraces = false) (g : GC) (M : HM) (x o : Nat) (p0 p1 : Int32) {fs : List Value} (hx7 : M x = some (.inr (7, fs))) {res res2 : Rs} (hK : KM g l yX5_seemsAgain cX5_seemsAgain 3 (some .int) 8 3 18 [.ref x, .int p0, .int p1] M res) (hO : hOut g o ["java/lang/IndexOutOfBoundsException"] res res2) : KH g l yL_seemsAgain cL_seemsAgain 5 [(0, 10, 13, 57)] 9 3 18 [.ref x, .int p0, .int p1, .ref o] M res2 := by
  refine k_methH hlf (by decide) (Nat.le_of_ble_eq_true rfl) fun p e s m below meth c ls hc hr ht hM hS hl => ?_
  have hc : Cx g p l s m [.ref x, .int p0, .int p1, .ref o].toArray meth c cL_seemsAgain 5 RL := hc
  have hx := hc.1
  have hb := hc.2.1
  have hl : lv_has ls 5 [(0, .ref x), (1, .int p0), (2, .int p1), (3, .ref o)] := hl
  refine lv_aload_n hx hb dL_seemsAgain_0 rfl (lv_at hl 3 rfl) ?_
  refine lv_iconst (v := 0) hx hb dL_seemsAgain_1 (by decide) ?_
  refine lv_aload_n hx hb dL_seemsAgain_2 rfl (lv_at hl 0 rfl) ?_
  refine lv_iload_n hx hb dL_seemsAgain_3 rfl (lv_at hl 1 rfl) ?_
  refine lv_iload_n hx hb dL_seemsAgain_4 rfl (lv_at hl 2 rfl) ?_
  refine k_goV hc (As := [.int p0, .int p1]) (rest := [.int 0, .ref o]) cw_L_79 rfl dL_seemsAgain_5 hK hx7 hM hS rfl hl.1 ⟨Nat.le_of_ble_eq_true rfl, Nat.le_of_ble_eq_true rfl⟩ ⟨Nat.le_of_ble_eq_true rfl, Nat.le_of_ble_eq_true rfl⟩ (Nat.le_of_ble_eq_true rfl) (fun v M1 H locs hres hM hS => ?_) (fun E M1 H locs q9 ce hres hM hS hcell hcv hcl => ?_)
  · rcases hO with ⟨w, M2, f, h1, h2, h3⟩ | ⟨k, E, M2, h0, h1, h3⟩
    · rw [hres] at h1
      cases h1
      refine lv_i2l hx hb dL_seemsAgain_8 rfl ?_
      refine k_last hc hM hS h2 in01 dL_seemsAgain_9 (fun H locs hM hS => ?_)
      refine lv_goto (tgt := 17) hx hb dL_seemsAgain_10 (by decide) ?_
      refine lv_iconst (v := 0) hx hb dL_seemsAgain_17 (by decide) ?_
      exact k_iret hc hr dL_seemsAgain_18 hM hS (Nat.le_of_ble_eq_true rfl) (Nat.le_of_ble_eq_true rfl) h3
    · rw [hres] at h1
      cases h1
  · rcases hO with ⟨w, M2, f, h1, h2, h3⟩ | ⟨k, E2, M2, h0, h1, h3⟩
    · rw [hres] at h1
      cases h1
    · rw [hres] at h1
      cases h1
      obtain ⟨rfl, rfl⟩ : k = 0 ∧ E = "java/lang/IndexOutOfBoundsException" := by
        match k, h0 with
        | 0, h0 => exact ⟨rfl, (Option.some.inj h0).symm⟩
        | k + 1, h0 => cases h0
      refine k_catch hc (E := "java/lang/IndexOutOfBoundsException") (by decide +kernel) [] ⟨0, 10, 13, 57⟩ [] ht (fun z hz => by cases hz) (by decide) (by decide) ql_L_57 hcell hcv hcl ?_
      refine lv_astore (lv' := [(4, .ref q9), (0, .ref x), (1, .int p0), (2, .int p1), (3, .ref o)]) hx hb dL_seemsAgain_13 hl (by decide) rfl (fun ls hl => ?_)
      refine lv_iconst (v := 1) hx hb dL_seemsAgain_15 (by decide) ?_
      exact k_iret hc hr dL_seemsAgain_16 hM hS (Nat.le_of_ble_eq_true rfl) (Nat.le_of_ble_eq_true rfl) h3
set_option maxHeartbeats 4000000 in
set_option maxRecDepth 100000 in
theorem c_L_shimmers (l : Launch) (hlf : l.stackTraces = false) (g : GC) (M : HM) (x o : Nat) (p0 p1 : Int32) {fs : List Value} (hx7 : M x = some (.inr (7, fs))) {res res2 : Rs} (hK : KM g l yX5_shimmers cX5_shimmers 3 (some .boolean) 7 3 18 [.ref x, .int p0, .int p1] M res) (hO : hOut g o ["java/lang/IndexOutOfBoundsException"] res res2) (hB : ∀ (v : Int32) (M1 : HM), res = .inl (some (.int v), M1) → v = 0 ∨ v = 1) : KH g l yL_shimmers cL_shimmers 5 [(0, 17, 20, 57)] 8 3 18 [.ref x, .int p0, .int p1, .ref o] M res2 := by
  refine k_methH hlf (by decide) (Nat.le_of_ble_eq_true rfl) fun p e s m below meth c ls hc hr ht hM hS hl => ?_
  have hc : Cx g p l s m [.ref x, .int p0, .int p1, .ref o].toArray meth c cL_shimmers 5 RL := hc
  have hx := hc.1
  have hb := hc.2.1
  have hl : lv_has ls 5 [(0, .ref x), (1, .int p0), (2, .int p1), (3, .ref o)] := hl
  refine lv_aload_n hx hb dL_shimmers_0 rfl (lv_at hl 3 rfl) ?_
  refine lv_iconst (v := 0) hx hb dL_shimmers_1 (by decide) ?_
  refine lv_aload_n hx hb dL_shimmers_2 rfl (lv_at hl 0 rfl) ?_
  refine lv_iload_n hx hb dL_shimmers_3 rfl (lv_at hl 1 rfl) ?_
  refine lv_iload_n hx hb dL_shimmers_4 rfl (lv_at hl 2 rfl) ?_
  refine k_goV hc (As := [.int p0, .int p1]) (rest := [.int 0, .ref o]) cw_L_82 rfl dL_shimmers_5 hK hx7 hM hS rfl hl.1 ⟨Nat.le_of_ble_eq_true rfl, Nat.le_of_ble_eq_true rfl⟩ ⟨Nat.le_of_ble_eq_true rfl, Nat.le_of_ble_eq_true rfl⟩ (Nat.le_of_ble_eq_true rfl) (fun v M1 H locs hres hM hS => ?_) (fun E M1 H locs q9 ce hres hM hS hcell hcv hcl => ?_)
  · rcases hO with ⟨w, M2, f, h1, h2, h3⟩ | ⟨k, E, M2, h0, h1, h3⟩
    · rw [hres] at h1
      cases h1
      refine lv_if_eq (tgt := 15) hx hb dL_shimmers_8 (by decide) (fun c_1 => ?_) (fun c_1 => ?_)
      · refine lv_lconst (v := 0) hx hb dL_shimmers_15 rfl ?_
        refine k_last hc hM hS h2 in01 dL_shimmers_16 (fun H locs hM hS => ?_)
        refine lv_goto (tgt := 24) hx hb dL_shimmers_17 (by decide) ?_
        have h3 := h3.trans (show _ = (.inl (some (.int 0), upM M1 o (.inl (gJ g, 1, .inr (.inl (vp_updL f 0 0))))) : Rs) by rw [c_1]; rfl)
        refine lv_iconst (v := 0) hx hb dL_shimmers_24 (by decide) ?_
        exact k_iret hc hr dL_shimmers_25 hM hS (Nat.le_of_ble_eq_true rfl) (Nat.le_of_ble_eq_true rfl) h3
      · refine lv_lconst (v := 1) hx hb dL_shimmers_11 rfl ?_
        refine lv_goto (tgt := 16) hx hb dL_shimmers_12 (by decide) ?_
        refine k_last hc hM hS h2 in01 dL_shimmers_16 (fun H locs hM hS => ?_)
        refine lv_goto (tgt := 24) hx hb dL_shimmers_17 (by decide) ?_
        have h3 := h3.trans (show _ = (.inl (some (.int 0), upM M1 o (.inl (gJ g, 1, .inr (.inl (vp_updL f 0 1))))) : Rs) by rw [(hB _ _ hres).resolve_left c_1]; rfl)
        refine lv_iconst (v := 0) hx hb dL_shimmers_24 (by decide) ?_
        exact k_iret hc hr dL_shimmers_25 hM hS (Nat.le_of_ble_eq_true rfl) (Nat.le_of_ble_eq_true rfl) h3
    · rw [hres] at h1
      cases h1
  · rcases hO with ⟨w, M2, f, h1, h2, h3⟩ | ⟨k, E2, M2, h0, h1, h3⟩
    · rw [hres] at h1
      cases h1
    · rw [hres] at h1
      cases h1
      obtain ⟨rfl, rfl⟩ : k = 0 ∧ E = "java/lang/IndexOutOfBoundsException" := by
        match k, h0 with
        | 0, h0 => exact ⟨rfl, (Option.some.inj h0).symm⟩
        | k + 1, h0 => cases h0
      refine k_catch hc (E := "java/lang/IndexOutOfBoundsException") (by decide +kernel) [] ⟨0, 17, 20, 57⟩ [] ht (fun z hz => by cases hz) (by decide) (by decide) ql_L_57 hcell hcv hcl ?_
      refine lv_astore (lv' := [(4, .ref q9), (0, .ref x), (1, .int p0), (2, .int p1), (3, .ref o)]) hx hb dL_shimmers_20 hl (by decide) rfl (fun ls hl => ?_)
      refine lv_iconst (v := 1) hx hb dL_shimmers_22 (by decide) ?_
      exact k_iret hc hr dL_shimmers_23 hM hS (Nat.le_of_ble_eq_true rfl) (Nat.le_of_ble_eq_true rfl) h3
set_option maxHeartbeats 4000000 in
set_option maxRecDepth 100000 in
theorem c_L_bestPost (l : Launch) (hlf : l.stackTraces = false) (g : GC) (M : HM) (x o : Nat) (p0 : Int32) {fs : List Value} (hx7 : M x = some (.inr (7, fs))) {res res2 : Rs} (hK : KM g l yX5_bestPost cX5_bestPost 3 (some .int) 10 3 18 [.ref x, .int p0] M res) (hO : hOut g o ["java/lang/IndexOutOfBoundsException", "java/util/NoSuchElementException"] res res2) : KH g l yL_bestPost cL_bestPost 4 [(0, 9, 12, 57), (0, 9, 15, 71)] 11 3 18 [.ref x, .int p0, .ref o] M res2 := by
  refine k_methH hlf (by decide) (Nat.le_of_ble_eq_true rfl) fun p e s m below meth c ls hc hr ht hM hS hl => ?_
  have hc : Cx g p l s m [.ref x, .int p0, .ref o].toArray meth c cL_bestPost 4 RL := hc
  have hx := hc.1
  have hb := hc.2.1
  have hl : lv_has ls 4 [(0, .ref x), (1, .int p0), (2, .ref o)] := hl
  refine lv_aload_n hx hb dL_bestPost_0 rfl (lv_at hl 2 rfl) ?_
  refine lv_iconst (v := 0) hx hb dL_bestPost_1 (by decide) ?_
  refine lv_aload_n hx hb dL_bestPost_2 rfl (lv_at hl 0 rfl) ?_
  refine lv_iload_n hx hb dL_bestPost_3 rfl (lv_at hl 1 rfl) ?_
  refine k_goV hc (As := [.int p0]) (rest := [.int 0, .ref o]) cw_L_86 rfl dL_bestPost_4 hK hx7 hM hS rfl hl.1 ⟨Nat.le_of_ble_eq_true rfl, Nat.le_of_ble_eq_true rfl⟩ ⟨Nat.le_of_ble_eq_true rfl, Nat.le_of_ble_eq_true rfl⟩ (Nat.le_of_ble_eq_true rfl) (fun v M1 H locs hres hM hS => ?_) (fun E M1 H locs q9 ce hres hM hS hcell hcv hcl => ?_)
  · rcases hO with ⟨w, M2, f, h1, h2, h3⟩ | ⟨k, E, M2, h0, h1, h3⟩
    · rw [hres] at h1
      cases h1
      refine lv_i2l hx hb dL_bestPost_7 rfl ?_
      refine k_last hc hM hS h2 in01 dL_bestPost_8 (fun H locs hM hS => ?_)
      refine lv_goto (tgt := 18) hx hb dL_bestPost_9 (by decide) ?_
      refine lv_iconst (v := 0) hx hb dL_bestPost_18 (by decide) ?_
      exact k_iret hc hr dL_bestPost_19 hM hS (Nat.le_of_ble_eq_true rfl) (Nat.le_of_ble_eq_true rfl) h3
    · rw [hres] at h1
      cases h1
  · rcases hO with ⟨w, M2, f, h1, h2, h3⟩ | ⟨k, E2, M2, h0, h1, h3⟩
    · rw [hres] at h1
      cases h1
    · rw [hres] at h1
      cases h1
      have h0 : (k = 0 ∧ E = "java/lang/IndexOutOfBoundsException") ∨ (k = 1 ∧ E = "java/util/NoSuchElementException") := by
        match k, h0 with
        | 0, h0 => exact Or.inl ⟨rfl, (Option.some.inj h0).symm⟩
        | 1, h0 => exact Or.inr ⟨rfl, (Option.some.inj h0).symm⟩
        | k + 2, h0 => cases h0
      rcases h0 with ⟨rfl, rfl⟩ | ⟨rfl, rfl⟩
      · refine k_catch hc (E := "java/lang/IndexOutOfBoundsException") (by decide +kernel) [] ⟨0, 9, 12, 57⟩ [⟨0, 9, 15, 71⟩] ht (fun z hz => by cases hz) (by decide) (by decide) ql_L_57 hcell hcv hcl ?_
        refine lv_astore_n (lv' := [(3, .ref q9), (0, .ref x), (1, .int p0), (2, .ref o)]) hx hb dL_bestPost_12 rfl hl (by decide) rfl (fun ls hl => ?_)
        refine lv_iconst (v := 1) hx hb dL_bestPost_13 (by decide) ?_
        exact k_iret hc hr dL_bestPost_14 hM hS (Nat.le_of_ble_eq_true rfl) (Nat.le_of_ble_eq_true rfl) h3
      · refine k_catch hc (E := "java/util/NoSuchElementException") (by decide +kernel) [⟨0, 9, 12, 57⟩] ⟨0, 9, 15, 71⟩ [] ht (fun z hz => by rcases List.mem_singleton.mp hz with rfl; exact ⟨by decide, _, ql_L_57, by decide⟩) (by decide) (by decide) ql_L_71 hcell hcv hcl ?_
        refine lv_astore_n (lv' := [(3, .ref q9), (0, .ref x), (1, .int p0), (2, .ref o)]) hx hb dL_bestPost_15 rfl hl (by decide) rfl (fun ls hl => ?_)
        refine lv_iconst (v := 2) hx hb dL_bestPost_16 (by decide) ?_
        exact k_iret hc hr dL_bestPost_17 hM hS (Nat.le_of_ble_eq_true rfl) (Nat.le_of_ble_eq_true rfl) h3
set_option maxHeartbeats 4000000 in
set_option maxRecDepth 100000 in
theorem c_L_clearIn (l : Launch) (hlf : l.stackTraces = false) (g : GC) (M : HM) (x o : Nat) (p0 p1 : Int32) {fs : List Value} (hx7 : M x = some (.inr (7, fs))) {res res2 : Rs} (hK : KM g l yX5_clearIn cX5_clearIn 4 (some .int) 8 3 18 [.ref x, .int p0, .int p1] M res) (hO : hOut g o ["java/lang/IndexOutOfBoundsException", "java/util/NoSuchElementException"] res res2) : KH g l yL_clearIn cL_clearIn 5 [(0, 10, 13, 57), (0, 10, 17, 71)] 9 3 18 [.ref x, .int p0, .int p1, .ref o] M res2 := by
  refine k_methH hlf (by decide) (Nat.le_of_ble_eq_true rfl) fun p e s m below meth c ls hc hr ht hM hS hl => ?_
  have hc : Cx g p l s m [.ref x, .int p0, .int p1, .ref o].toArray meth c cL_clearIn 5 RL := hc
  have hx := hc.1
  have hb := hc.2.1
  have hl : lv_has ls 5 [(0, .ref x), (1, .int p0), (2, .int p1), (3, .ref o)] := hl
  refine lv_aload_n hx hb dL_clearIn_0 rfl (lv_at hl 3 rfl) ?_
  refine lv_iconst (v := 0) hx hb dL_clearIn_1 (by decide) ?_
  refine lv_aload_n hx hb dL_clearIn_2 rfl (lv_at hl 0 rfl) ?_
  refine lv_iload_n hx hb dL_clearIn_3 rfl (lv_at hl 1 rfl) ?_
  refine lv_iload_n hx hb dL_clearIn_4 rfl (lv_at hl 2 rfl) ?_
  refine k_goV hc (As := [.int p0, .int p1]) (rest := [.int 0, .ref o]) cw_L_89 rfl dL_clearIn_5 hK hx7 hM hS rfl hl.1 ⟨Nat.le_of_ble_eq_true rfl, Nat.le_of_ble_eq_true rfl⟩ ⟨Nat.le_of_ble_eq_true rfl, Nat.le_of_ble_eq_true rfl⟩ (Nat.le_of_ble_eq_true rfl) (fun v M1 H locs hres hM hS => ?_) (fun E M1 H locs q9 ce hres hM hS hcell hcv hcl => ?_)
  · rcases hO with ⟨w, M2, f, h1, h2, h3⟩ | ⟨k, E, M2, h0, h1, h3⟩
    · rw [hres] at h1
      cases h1
      refine lv_i2l hx hb dL_clearIn_8 rfl ?_
      refine k_last hc hM hS h2 in01 dL_clearIn_9 (fun H locs hM hS => ?_)
      refine lv_goto (tgt := 21) hx hb dL_clearIn_10 (by decide) ?_
      refine lv_iconst (v := 0) hx hb dL_clearIn_21 (by decide) ?_
      exact k_iret hc hr dL_clearIn_22 hM hS (Nat.le_of_ble_eq_true rfl) (Nat.le_of_ble_eq_true rfl) h3
    · rw [hres] at h1
      cases h1
  · rcases hO with ⟨w, M2, f, h1, h2, h3⟩ | ⟨k, E2, M2, h0, h1, h3⟩
    · rw [hres] at h1
      cases h1
    · rw [hres] at h1
      cases h1
      have h0 : (k = 0 ∧ E = "java/lang/IndexOutOfBoundsException") ∨ (k = 1 ∧ E = "java/util/NoSuchElementException") := by
        match k, h0 with
        | 0, h0 => exact Or.inl ⟨rfl, (Option.some.inj h0).symm⟩
        | 1, h0 => exact Or.inr ⟨rfl, (Option.some.inj h0).symm⟩
        | k + 2, h0 => cases h0
      rcases h0 with ⟨rfl, rfl⟩ | ⟨rfl, rfl⟩
      · refine k_catch hc (E := "java/lang/IndexOutOfBoundsException") (by decide +kernel) [] ⟨0, 10, 13, 57⟩ [⟨0, 10, 17, 71⟩] ht (fun z hz => by cases hz) (by decide) (by decide) ql_L_57 hcell hcv hcl ?_
        refine lv_astore (lv' := [(4, .ref q9), (0, .ref x), (1, .int p0), (2, .int p1), (3, .ref o)]) hx hb dL_clearIn_13 hl (by decide) rfl (fun ls hl => ?_)
        refine lv_iconst (v := 1) hx hb dL_clearIn_15 (by decide) ?_
        exact k_iret hc hr dL_clearIn_16 hM hS (Nat.le_of_ble_eq_true rfl) (Nat.le_of_ble_eq_true rfl) h3
      · refine k_catch hc (E := "java/util/NoSuchElementException") (by decide +kernel) [⟨0, 10, 13, 57⟩] ⟨0, 10, 17, 71⟩ [] ht (fun z hz => by rcases List.mem_singleton.mp hz with rfl; exact ⟨by decide, _, ql_L_57, by decide⟩) (by decide) (by decide) ql_L_71 hcell hcv hcl ?_
        refine lv_astore (lv' := [(4, .ref q9), (0, .ref x), (1, .int p0), (2, .int p1), (3, .ref o)]) hx hb dL_clearIn_17 hl (by decide) rfl (fun ls hl => ?_)
        refine lv_iconst (v := 2) hx hb dL_clearIn_19 (by decide) ?_
        exact k_iret hc hr dL_clearIn_20 hM hS (Nat.le_of_ble_eq_true rfl) (Nat.le_of_ble_eq_true rfl) h3
set_option maxHeartbeats 4000000 in
set_option maxRecDepth 100000 in
theorem c_L_heatIn (l : Launch) (hlf : l.stackTraces = false) (g : GC) (M : HM) (x o : Nat) (p0 : Int32) {fs : List Value} (hx7 : M x = some (.inr (7, fs))) {res res2 : Rs} (hK : KM g l yX5_heatIn cX5_heatIn 2 (some .int) 6 3 18 [.ref x, .int p0] M res) (hO : hOut g o ["java/lang/IllegalArgumentException"] res res2) : KH g l yL_heatIn cL_heatIn 4 [(0, 9, 12, 66)] 7 3 18 [.ref x, .int p0, .ref o] M res2 := by
  refine k_methH hlf (by decide) (Nat.le_of_ble_eq_true rfl) fun p e s m below meth c ls hc hr ht hM hS hl => ?_
  have hc : Cx g p l s m [.ref x, .int p0, .ref o].toArray meth c cL_heatIn 4 RL := hc
  have hx := hc.1
  have hb := hc.2.1
  have hl : lv_has ls 4 [(0, .ref x), (1, .int p0), (2, .ref o)] := hl
  refine lv_aload_n hx hb dL_heatIn_0 rfl (lv_at hl 2 rfl) ?_
  refine lv_iconst (v := 0) hx hb dL_heatIn_1 (by decide) ?_
  refine lv_aload_n hx hb dL_heatIn_2 rfl (lv_at hl 0 rfl) ?_
  refine lv_iload_n hx hb dL_heatIn_3 rfl (lv_at hl 1 rfl) ?_
  refine k_goV hc (As := [.int p0]) (rest := [.int 0, .ref o]) cw_L_92 rfl dL_heatIn_4 hK hx7 hM hS rfl hl.1 ⟨Nat.le_of_ble_eq_true rfl, Nat.le_of_ble_eq_true rfl⟩ ⟨Nat.le_of_ble_eq_true rfl, Nat.le_of_ble_eq_true rfl⟩ (Nat.le_of_ble_eq_true rfl) (fun v M1 H locs hres hM hS => ?_) (fun E M1 H locs q9 ce hres hM hS hcell hcv hcl => ?_)
  · rcases hO with ⟨w, M2, f, h1, h2, h3⟩ | ⟨k, E, M2, h0, h1, h3⟩
    · rw [hres] at h1
      cases h1
      refine lv_i2l hx hb dL_heatIn_7 rfl ?_
      refine k_last hc hM hS h2 in01 dL_heatIn_8 (fun H locs hM hS => ?_)
      refine lv_goto (tgt := 15) hx hb dL_heatIn_9 (by decide) ?_
      refine lv_iconst (v := 0) hx hb dL_heatIn_15 (by decide) ?_
      exact k_iret hc hr dL_heatIn_16 hM hS (Nat.le_of_ble_eq_true rfl) (Nat.le_of_ble_eq_true rfl) h3
    · rw [hres] at h1
      cases h1
  · rcases hO with ⟨w, M2, f, h1, h2, h3⟩ | ⟨k, E2, M2, h0, h1, h3⟩
    · rw [hres] at h1
      cases h1
    · rw [hres] at h1
      cases h1
      obtain ⟨rfl, rfl⟩ : k = 0 ∧ E = "java/lang/IllegalArgumentException" := by
        match k, h0 with
        | 0, h0 => exact ⟨rfl, (Option.some.inj h0).symm⟩
        | k + 1, h0 => cases h0
      refine k_catch hc (E := "java/lang/IllegalArgumentException") (by decide +kernel) [] ⟨0, 9, 12, 66⟩ [] ht (fun z hz => by cases hz) (by decide) (by decide) ql_L_66 hcell hcv hcl ?_
      refine lv_astore_n (lv' := [(3, .ref q9), (0, .ref x), (1, .int p0), (2, .ref o)]) hx hb dL_heatIn_12 rfl hl (by decide) rfl (fun ls hl => ?_)
      refine lv_iconst (v := 1) hx hb dL_heatIn_13 (by decide) ?_
      exact k_iret hc hr dL_heatIn_14 hM hS (Nat.le_of_ble_eq_true rfl) (Nat.le_of_ble_eq_true rfl) h3
set_option maxHeartbeats 4000000 in
set_option maxRecDepth 100000 in
theorem c_L_lostIn (l : Launch) (hlf : l.stackTraces = false) (g : GC) (M : HM) (x o : Nat) (p0 : Int32) {fs : List Value} (hx7 : M x = some (.inr (7, fs))) {res res2 : Rs} (hK : KM g l yX5_lostIn cX5_lostIn 3 (some .int) 7 3 18 [.ref x, .int p0] M res) (hO : hOut g o ["java/lang/IndexOutOfBoundsException", "java/util/NoSuchElementException"] res res2) : KH g l yL_lostIn cL_lostIn 4 [(0, 9, 12, 57), (0, 9, 15, 71)] 8 3 18 [.ref x, .int p0, .ref o] M res2 := by
  refine k_methH hlf (by decide) (Nat.le_of_ble_eq_true rfl) fun p e s m below meth c ls hc hr ht hM hS hl => ?_
  have hc : Cx g p l s m [.ref x, .int p0, .ref o].toArray meth c cL_lostIn 4 RL := hc
  have hx := hc.1
  have hb := hc.2.1
  have hl : lv_has ls 4 [(0, .ref x), (1, .int p0), (2, .ref o)] := hl
  refine lv_aload_n hx hb dL_lostIn_0 rfl (lv_at hl 2 rfl) ?_
  refine lv_iconst (v := 0) hx hb dL_lostIn_1 (by decide) ?_
  refine lv_aload_n hx hb dL_lostIn_2 rfl (lv_at hl 0 rfl) ?_
  refine lv_iload_n hx hb dL_lostIn_3 rfl (lv_at hl 1 rfl) ?_
  refine k_goV hc (As := [.int p0]) (rest := [.int 0, .ref o]) cw_L_95 rfl dL_lostIn_4 hK hx7 hM hS rfl hl.1 ⟨Nat.le_of_ble_eq_true rfl, Nat.le_of_ble_eq_true rfl⟩ ⟨Nat.le_of_ble_eq_true rfl, Nat.le_of_ble_eq_true rfl⟩ (Nat.le_of_ble_eq_true rfl) (fun v M1 H locs hres hM hS => ?_) (fun E M1 H locs q9 ce hres hM hS hcell hcv hcl => ?_)
  · rcases hO with ⟨w, M2, f, h1, h2, h3⟩ | ⟨k, E, M2, h0, h1, h3⟩
    · rw [hres] at h1
      cases h1
      refine lv_i2l hx hb dL_lostIn_7 rfl ?_
      refine k_last hc hM hS h2 in01 dL_lostIn_8 (fun H locs hM hS => ?_)
      refine lv_goto (tgt := 18) hx hb dL_lostIn_9 (by decide) ?_
      refine lv_iconst (v := 0) hx hb dL_lostIn_18 (by decide) ?_
      exact k_iret hc hr dL_lostIn_19 hM hS (Nat.le_of_ble_eq_true rfl) (Nat.le_of_ble_eq_true rfl) h3
    · rw [hres] at h1
      cases h1
  · rcases hO with ⟨w, M2, f, h1, h2, h3⟩ | ⟨k, E2, M2, h0, h1, h3⟩
    · rw [hres] at h1
      cases h1
    · rw [hres] at h1
      cases h1
      have h0 : (k = 0 ∧ E = "java/lang/IndexOutOfBoundsException") ∨ (k = 1 ∧ E = "java/util/NoSuchElementException") := by
        match k, h0 with
        | 0, h0 => exact Or.inl ⟨rfl, (Option.some.inj h0).symm⟩
        | 1, h0 => exact Or.inr ⟨rfl, (Option.some.inj h0).symm⟩
        | k + 2, h0 => cases h0
      rcases h0 with ⟨rfl, rfl⟩ | ⟨rfl, rfl⟩
      · refine k_catch hc (E := "java/lang/IndexOutOfBoundsException") (by decide +kernel) [] ⟨0, 9, 12, 57⟩ [⟨0, 9, 15, 71⟩] ht (fun z hz => by cases hz) (by decide) (by decide) ql_L_57 hcell hcv hcl ?_
        refine lv_astore_n (lv' := [(3, .ref q9), (0, .ref x), (1, .int p0), (2, .ref o)]) hx hb dL_lostIn_12 rfl hl (by decide) rfl (fun ls hl => ?_)
        refine lv_iconst (v := 1) hx hb dL_lostIn_13 (by decide) ?_
        exact k_iret hc hr dL_lostIn_14 hM hS (Nat.le_of_ble_eq_true rfl) (Nat.le_of_ble_eq_true rfl) h3
      · refine k_catch hc (E := "java/util/NoSuchElementException") (by decide +kernel) [⟨0, 9, 12, 57⟩] ⟨0, 9, 15, 71⟩ [] ht (fun z hz => by rcases List.mem_singleton.mp hz with rfl; exact ⟨by decide, _, ql_L_57, by decide⟩) (by decide) (by decide) ql_L_71 hcell hcv hcl ?_
        refine lv_astore_n (lv' := [(3, .ref q9), (0, .ref x), (1, .int p0), (2, .ref o)]) hx hb dL_lostIn_15 rfl hl (by decide) rfl (fun ls hl => ?_)
        refine lv_iconst (v := 2) hx hb dL_lostIn_16 (by decide) ?_
        exact k_iret hc hr dL_lostIn_17 hM hS (Nat.le_of_ble_eq_true rfl) (Nat.le_of_ble_eq_true rfl) h3
set_option maxHeartbeats 4000000 in
set_option maxRecDepth 100000 in
theorem c_L_nearest (l : Launch) (hlf : l.stackTraces = false) (g : GC) (M : HM) (x o : Nat) (p0 : Int32) {fs : List Value} (hx7 : M x = some (.inr (7, fs))) {res res2 : Rs} (hK : KM g l yX5_nearest cX5_nearest 3 (some .int) 7 3 18 [.ref x, .int p0] M res) (hO : hOut g o ["java/lang/IllegalArgumentException", "java/util/NoSuchElementException"] res res2) : KH g l yL_nearest cL_nearest 4 [(0, 9, 12, 66), (0, 9, 15, 71)] 8 3 18 [.ref x, .int p0, .ref o] M res2 := by
  refine k_methH hlf (by decide) (Nat.le_of_ble_eq_true rfl) fun p e s m below meth c ls hc hr ht hM hS hl => ?_
  have hc : Cx g p l s m [.ref x, .int p0, .ref o].toArray meth c cL_nearest 4 RL := hc
  have hx := hc.1
  have hb := hc.2.1
  have hl : lv_has ls 4 [(0, .ref x), (1, .int p0), (2, .ref o)] := hl
  refine lv_aload_n hx hb dL_nearest_0 rfl (lv_at hl 2 rfl) ?_
  refine lv_iconst (v := 0) hx hb dL_nearest_1 (by decide) ?_
  refine lv_aload_n hx hb dL_nearest_2 rfl (lv_at hl 0 rfl) ?_
  refine lv_iload_n hx hb dL_nearest_3 rfl (lv_at hl 1 rfl) ?_
  refine k_goV hc (As := [.int p0]) (rest := [.int 0, .ref o]) cw_L_98 rfl dL_nearest_4 hK hx7 hM hS rfl hl.1 ⟨Nat.le_of_ble_eq_true rfl, Nat.le_of_ble_eq_true rfl⟩ ⟨Nat.le_of_ble_eq_true rfl, Nat.le_of_ble_eq_true rfl⟩ (Nat.le_of_ble_eq_true rfl) (fun v M1 H locs hres hM hS => ?_) (fun E M1 H locs q9 ce hres hM hS hcell hcv hcl => ?_)
  · rcases hO with ⟨w, M2, f, h1, h2, h3⟩ | ⟨k, E, M2, h0, h1, h3⟩
    · rw [hres] at h1
      cases h1
      refine lv_i2l hx hb dL_nearest_7 rfl ?_
      refine k_last hc hM hS h2 in01 dL_nearest_8 (fun H locs hM hS => ?_)
      refine lv_goto (tgt := 18) hx hb dL_nearest_9 (by decide) ?_
      refine lv_iconst (v := 0) hx hb dL_nearest_18 (by decide) ?_
      exact k_iret hc hr dL_nearest_19 hM hS (Nat.le_of_ble_eq_true rfl) (Nat.le_of_ble_eq_true rfl) h3
    · rw [hres] at h1
      cases h1
  · rcases hO with ⟨w, M2, f, h1, h2, h3⟩ | ⟨k, E2, M2, h0, h1, h3⟩
    · rw [hres] at h1
      cases h1
    · rw [hres] at h1
      cases h1
      have h0 : (k = 0 ∧ E = "java/lang/IllegalArgumentException") ∨ (k = 1 ∧ E = "java/util/NoSuchElementException") := by
        match k, h0 with
        | 0, h0 => exact Or.inl ⟨rfl, (Option.some.inj h0).symm⟩
        | 1, h0 => exact Or.inr ⟨rfl, (Option.some.inj h0).symm⟩
        | k + 2, h0 => cases h0
      rcases h0 with ⟨rfl, rfl⟩ | ⟨rfl, rfl⟩
      · refine k_catch hc (E := "java/lang/IllegalArgumentException") (by decide +kernel) [] ⟨0, 9, 12, 66⟩ [⟨0, 9, 15, 71⟩] ht (fun z hz => by cases hz) (by decide) (by decide) ql_L_66 hcell hcv hcl ?_
        refine lv_astore_n (lv' := [(3, .ref q9), (0, .ref x), (1, .int p0), (2, .ref o)]) hx hb dL_nearest_12 rfl hl (by decide) rfl (fun ls hl => ?_)
        refine lv_iconst (v := 1) hx hb dL_nearest_13 (by decide) ?_
        exact k_iret hc hr dL_nearest_14 hM hS (Nat.le_of_ble_eq_true rfl) (Nat.le_of_ble_eq_true rfl) h3
      · refine k_catch hc (E := "java/util/NoSuchElementException") (by decide +kernel) [⟨0, 9, 12, 66⟩] ⟨0, 9, 15, 71⟩ [] ht (fun z hz => by rcases List.mem_singleton.mp hz with rfl; exact ⟨by decide, _, ql_L_66, by decide⟩) (by decide) (by decide) ql_L_71 hcell hcv hcl ?_
        refine lv_astore_n (lv' := [(3, .ref q9), (0, .ref x), (1, .int p0), (2, .ref o)]) hx hb dL_nearest_15 rfl hl (by decide) rfl (fun ls hl => ?_)
        refine lv_iconst (v := 2) hx hb dL_nearest_16 (by decide) ?_
        exact k_iret hc hr dL_nearest_17 hM hS (Nat.le_of_ble_eq_true rfl) (Nat.le_of_ble_eq_true rfl) h3
set_option maxHeartbeats 4000000 in
set_option maxRecDepth 100000 in
theorem c_L_append (l : Launch) (hlf : l.stackTraces = false) (g : GC) (M : HM) (x o : Nat) (p0 : Int32) {fs : List Value} (hx7 : M x = some (.inr (7, fs))) {res res2 : Rs} (hK : KM g l yX5_append cX5_append 2 (some .int) 6 3 18 [.ref x, .int p0] M res) (hO : hOut g o ["java/lang/IllegalStateException"] res res2) : KH g l yL_append cL_append 4 [(0, 9, 12, 105)] 7 3 18 [.ref x, .int p0, .ref o] M res2 := by
  refine k_methH hlf (by decide) (Nat.le_of_ble_eq_true rfl) fun p e s m below meth c ls hc hr ht hM hS hl => ?_
  have hc : Cx g p l s m [.ref x, .int p0, .ref o].toArray meth c cL_append 4 RL := hc
  have hx := hc.1
  have hb := hc.2.1
  have hl : lv_has ls 4 [(0, .ref x), (1, .int p0), (2, .ref o)] := hl
  refine lv_aload_n hx hb dL_append_0 rfl (lv_at hl 2 rfl) ?_
  refine lv_iconst (v := 0) hx hb dL_append_1 (by decide) ?_
  refine lv_aload_n hx hb dL_append_2 rfl (lv_at hl 0 rfl) ?_
  refine lv_iload_n hx hb dL_append_3 rfl (lv_at hl 1 rfl) ?_
  refine k_goV hc (As := [.int p0]) (rest := [.int 0, .ref o]) cw_L_101 rfl dL_append_4 hK hx7 hM hS rfl hl.1 ⟨Nat.le_of_ble_eq_true rfl, Nat.le_of_ble_eq_true rfl⟩ ⟨Nat.le_of_ble_eq_true rfl, Nat.le_of_ble_eq_true rfl⟩ (Nat.le_of_ble_eq_true rfl) (fun v M1 H locs hres hM hS => ?_) (fun E M1 H locs q9 ce hres hM hS hcell hcv hcl => ?_)
  · rcases hO with ⟨w, M2, f, h1, h2, h3⟩ | ⟨k, E, M2, h0, h1, h3⟩
    · rw [hres] at h1
      cases h1
      refine lv_i2l hx hb dL_append_7 rfl ?_
      refine k_last hc hM hS h2 in01 dL_append_8 (fun H locs hM hS => ?_)
      refine lv_goto (tgt := 15) hx hb dL_append_9 (by decide) ?_
      refine lv_iconst (v := 0) hx hb dL_append_15 (by decide) ?_
      exact k_iret hc hr dL_append_16 hM hS (Nat.le_of_ble_eq_true rfl) (Nat.le_of_ble_eq_true rfl) h3
    · rw [hres] at h1
      cases h1
  · rcases hO with ⟨w, M2, f, h1, h2, h3⟩ | ⟨k, E2, M2, h0, h1, h3⟩
    · rw [hres] at h1
      cases h1
    · rw [hres] at h1
      cases h1
      obtain ⟨rfl, rfl⟩ : k = 0 ∧ E = "java/lang/IllegalStateException" := by
        match k, h0 with
        | 0, h0 => exact ⟨rfl, (Option.some.inj h0).symm⟩
        | k + 1, h0 => cases h0
      refine k_catch hc (E := "java/lang/IllegalStateException") (by decide +kernel) [] ⟨0, 9, 12, 105⟩ [] ht (fun z hz => by cases hz) (by decide) (by decide) ql_L_105 hcell hcv hcl ?_
      refine lv_astore_n (lv' := [(3, .ref q9), (0, .ref x), (1, .int p0), (2, .ref o)]) hx hb dL_append_12 rfl hl (by decide) rfl (fun ls hl => ?_)
      refine lv_iconst (v := 1) hx hb dL_append_13 (by decide) ?_
      exact k_iret hc hr dL_append_14 hM hS (Nat.le_of_ble_eq_true rfl) (Nat.le_of_ble_eq_true rfl) h3
set_option maxHeartbeats 4000000 in
set_option maxRecDepth 100000 in
theorem c_L_commands (l : Launch) (hlf : l.stackTraces = false) (g : GC) (M : HM) (x o : Nat) {fs : List Value} (hx7 : M x = some (.inr (7, fs))) {res res2 : Rs} (hK : KM g l yX5_commands cX5_commands 4 (some .int) 10 3 18 [.ref x] M res) (hO : hOut g o ["java/lang/IllegalArgumentException", "java/lang/UnsupportedOperationException"] res res2) : KH g l yL_commands cL_commands 3 [(0, 8, 11, 66), (0, 8, 14, 13)] 11 3 18 [.ref x, .ref o] M res2 := by
  refine k_methH hlf (by decide) (Nat.le_of_ble_eq_true rfl) fun p e s m below meth c ls hc hr ht hM hS hl => ?_
  have hc : Cx g p l s m [.ref x, .ref o].toArray meth c cL_commands 3 RL := hc
  have hx := hc.1
  have hb := hc.2.1
  have hl : lv_has ls 3 [(0, .ref x), (1, .ref o)] := hl
  refine lv_aload_n hx hb dL_commands_0 rfl (lv_at hl 1 rfl) ?_
  refine lv_iconst (v := 0) hx hb dL_commands_1 (by decide) ?_
  refine lv_aload_n hx hb dL_commands_2 rfl (lv_at hl 0 rfl) ?_
  refine k_goV hc (As := []) (rest := [.int 0, .ref o]) cw_L_107 rfl dL_commands_3 hK hx7 hM hS rfl hl.1 ⟨Nat.le_of_ble_eq_true rfl, Nat.le_of_ble_eq_true rfl⟩ ⟨Nat.le_of_ble_eq_true rfl, Nat.le_of_ble_eq_true rfl⟩ (Nat.le_of_ble_eq_true rfl) (fun v M1 H locs hres hM hS => ?_) (fun E M1 H locs q9 ce hres hM hS hcell hcv hcl => ?_)
  · rcases hO with ⟨w, M2, f, h1, h2, h3⟩ | ⟨k, E, M2, h0, h1, h3⟩
    · rw [hres] at h1
      cases h1
      refine lv_i2l hx hb dL_commands_6 rfl ?_
      refine k_last hc hM hS h2 in01 dL_commands_7 (fun H locs hM hS => ?_)
      refine lv_goto (tgt := 17) hx hb dL_commands_8 (by decide) ?_
      refine lv_iconst (v := 0) hx hb dL_commands_17 (by decide) ?_
      exact k_iret hc hr dL_commands_18 hM hS (Nat.le_of_ble_eq_true rfl) (Nat.le_of_ble_eq_true rfl) h3
    · rw [hres] at h1
      cases h1
  · rcases hO with ⟨w, M2, f, h1, h2, h3⟩ | ⟨k, E2, M2, h0, h1, h3⟩
    · rw [hres] at h1
      cases h1
    · rw [hres] at h1
      cases h1
      have h0 : (k = 0 ∧ E = "java/lang/IllegalArgumentException") ∨ (k = 1 ∧ E = "java/lang/UnsupportedOperationException") := by
        match k, h0 with
        | 0, h0 => exact Or.inl ⟨rfl, (Option.some.inj h0).symm⟩
        | 1, h0 => exact Or.inr ⟨rfl, (Option.some.inj h0).symm⟩
        | k + 2, h0 => cases h0
      rcases h0 with ⟨rfl, rfl⟩ | ⟨rfl, rfl⟩
      · refine k_catch hc (E := "java/lang/IllegalArgumentException") (by decide +kernel) [] ⟨0, 8, 11, 66⟩ [⟨0, 8, 14, 13⟩] ht (fun z hz => by cases hz) (by decide) (by decide) ql_L_66 hcell hcv hcl ?_
        refine lv_astore_n (lv' := [(2, .ref q9), (0, .ref x), (1, .ref o)]) hx hb dL_commands_11 rfl hl (by decide) rfl (fun ls hl => ?_)
        refine lv_iconst (v := 1) hx hb dL_commands_12 (by decide) ?_
        exact k_iret hc hr dL_commands_13 hM hS (Nat.le_of_ble_eq_true rfl) (Nat.le_of_ble_eq_true rfl) h3
      · refine k_catch hc (E := "java/lang/UnsupportedOperationException") (by decide +kernel) [⟨0, 8, 11, 66⟩] ⟨0, 8, 14, 13⟩ [] ht (fun z hz => by rcases List.mem_singleton.mp hz with rfl; exact ⟨by decide, _, ql_L_66, by decide⟩) (by decide) (by decide) ql_L_13 hcell hcv hcl ?_
        refine lv_astore_n (lv' := [(2, .ref q9), (0, .ref x), (1, .ref o)]) hx hb dL_commands_14 rfl hl (by decide) rfl (fun ls hl => ?_)
        refine lv_iconst (v := 2) hx hb dL_commands_15 (by decide) ?_
        exact k_iret hc hr dL_commands_16 hM hS (Nat.le_of_ble_eq_true rfl) (Nat.le_of_ble_eq_true rfl) h3
set_option maxHeartbeats 4000000 in
set_option maxRecDepth 100000 in
theorem c_L_reason (l : Launch) (hlf : l.stackTraces = false) (g : GC) (M : HM) (x o : Nat) (p0 : Int32) {fs : List Value} (hx7 : M x = some (.inr (7, fs))) {res res2 : Rs} (hK : KM g l yX5_reason cX5_reason 2 (some .int) 6 3 18 [.ref x, .int p0] M res) (hO : hOut g o ["java/lang/IllegalArgumentException", "java/util/NoSuchElementException"] res res2) : KH g l yL_reason cL_reason 4 [(0, 9, 12, 66), (0, 9, 15, 71)] 7 3 18 [.ref x, .int p0, .ref o] M res2 := by
  refine k_methH hlf (by decide) (Nat.le_of_ble_eq_true rfl) fun p e s m below meth c ls hc hr ht hM hS hl => ?_
  have hc : Cx g p l s m [.ref x, .int p0, .ref o].toArray meth c cL_reason 4 RL := hc
  have hx := hc.1
  have hb := hc.2.1
  have hl : lv_has ls 4 [(0, .ref x), (1, .int p0), (2, .ref o)] := hl
  refine lv_aload_n hx hb dL_reason_0 rfl (lv_at hl 2 rfl) ?_
  refine lv_iconst (v := 0) hx hb dL_reason_1 (by decide) ?_
  refine lv_aload_n hx hb dL_reason_2 rfl (lv_at hl 0 rfl) ?_
  refine lv_iload_n hx hb dL_reason_3 rfl (lv_at hl 1 rfl) ?_
  refine k_goV hc (As := [.int p0]) (rest := [.int 0, .ref o]) cw_L_110 rfl dL_reason_4 hK hx7 hM hS rfl hl.1 ⟨Nat.le_of_ble_eq_true rfl, Nat.le_of_ble_eq_true rfl⟩ ⟨Nat.le_of_ble_eq_true rfl, Nat.le_of_ble_eq_true rfl⟩ (Nat.le_of_ble_eq_true rfl) (fun v M1 H locs hres hM hS => ?_) (fun E M1 H locs q9 ce hres hM hS hcell hcv hcl => ?_)
  · rcases hO with ⟨w, M2, f, h1, h2, h3⟩ | ⟨k, E, M2, h0, h1, h3⟩
    · rw [hres] at h1
      cases h1
      refine lv_i2l hx hb dL_reason_7 rfl ?_
      refine k_last hc hM hS h2 in01 dL_reason_8 (fun H locs hM hS => ?_)
      refine lv_goto (tgt := 18) hx hb dL_reason_9 (by decide) ?_
      refine lv_iconst (v := 0) hx hb dL_reason_18 (by decide) ?_
      exact k_iret hc hr dL_reason_19 hM hS (Nat.le_of_ble_eq_true rfl) (Nat.le_of_ble_eq_true rfl) h3
    · rw [hres] at h1
      cases h1
  · rcases hO with ⟨w, M2, f, h1, h2, h3⟩ | ⟨k, E2, M2, h0, h1, h3⟩
    · rw [hres] at h1
      cases h1
    · rw [hres] at h1
      cases h1
      have h0 : (k = 0 ∧ E = "java/lang/IllegalArgumentException") ∨ (k = 1 ∧ E = "java/util/NoSuchElementException") := by
        match k, h0 with
        | 0, h0 => exact Or.inl ⟨rfl, (Option.some.inj h0).symm⟩
        | 1, h0 => exact Or.inr ⟨rfl, (Option.some.inj h0).symm⟩
        | k + 2, h0 => cases h0
      rcases h0 with ⟨rfl, rfl⟩ | ⟨rfl, rfl⟩
      · refine k_catch hc (E := "java/lang/IllegalArgumentException") (by decide +kernel) [] ⟨0, 9, 12, 66⟩ [⟨0, 9, 15, 71⟩] ht (fun z hz => by cases hz) (by decide) (by decide) ql_L_66 hcell hcv hcl ?_
        refine lv_astore_n (lv' := [(3, .ref q9), (0, .ref x), (1, .int p0), (2, .ref o)]) hx hb dL_reason_12 rfl hl (by decide) rfl (fun ls hl => ?_)
        refine lv_iconst (v := 1) hx hb dL_reason_13 (by decide) ?_
        exact k_iret hc hr dL_reason_14 hM hS (Nat.le_of_ble_eq_true rfl) (Nat.le_of_ble_eq_true rfl) h3
      · refine k_catch hc (E := "java/util/NoSuchElementException") (by decide +kernel) [⟨0, 9, 12, 66⟩] ⟨0, 9, 15, 71⟩ [] ht (fun z hz => by rcases List.mem_singleton.mp hz with rfl; exact ⟨by decide, _, ql_L_66, by decide⟩) (by decide) (by decide) ql_L_71 hcell hcv hcl ?_
        refine lv_astore_n (lv' := [(3, .ref q9), (0, .ref x), (1, .int p0), (2, .ref o)]) hx hb dL_reason_15 rfl hl (by decide) rfl (fun ls hl => ?_)
        refine lv_iconst (v := 2) hx hb dL_reason_16 (by decide) ?_
        exact k_iret hc hr dL_reason_17 hM hS (Nat.le_of_ble_eq_true rfl) (Nat.le_of_ble_eq_true rfl) h3
set_option maxHeartbeats 4000000 in
set_option maxRecDepth 100000 in
theorem c_L_line (l : Launch) (hlf : l.stackTraces = false) (g : GC) (M : HM) (x o : Nat) (p0 : Int32) {fs : List Value} (hx7 : M x = some (.inr (7, fs))) {res res2 : Rs} (hK : KM g l yX5_line cX5_line 4 (some .int) 7 3 18 [.ref x, .int p0] M res) (hO : hOut g o ["java/lang/IndexOutOfBoundsException"] res res2) : KH g l yL_line cL_line 4 [(0, 9, 12, 57)] 8 3 18 [.ref x, .int p0, .ref o] M res2 := by
  refine k_methH hlf (by decide) (Nat.le_of_ble_eq_true rfl) fun p e s m below meth c ls hc hr ht hM hS hl => ?_
  have hc : Cx g p l s m [.ref x, .int p0, .ref o].toArray meth c cL_line 4 RL := hc
  have hx := hc.1
  have hb := hc.2.1
  have hl : lv_has ls 4 [(0, .ref x), (1, .int p0), (2, .ref o)] := hl
  refine lv_aload_n hx hb dL_line_0 rfl (lv_at hl 2 rfl) ?_
  refine lv_iconst (v := 0) hx hb dL_line_1 (by decide) ?_
  refine lv_aload_n hx hb dL_line_2 rfl (lv_at hl 0 rfl) ?_
  refine lv_iload_n hx hb dL_line_3 rfl (lv_at hl 1 rfl) ?_
  refine k_goV hc (As := [.int p0]) (rest := [.int 0, .ref o]) cw_L_113 rfl dL_line_4 hK hx7 hM hS rfl hl.1 ⟨Nat.le_of_ble_eq_true rfl, Nat.le_of_ble_eq_true rfl⟩ ⟨Nat.le_of_ble_eq_true rfl, Nat.le_of_ble_eq_true rfl⟩ (Nat.le_of_ble_eq_true rfl) (fun v M1 H locs hres hM hS => ?_) (fun E M1 H locs q9 ce hres hM hS hcell hcv hcl => ?_)
  · rcases hO with ⟨w, M2, f, h1, h2, h3⟩ | ⟨k, E, M2, h0, h1, h3⟩
    · rw [hres] at h1
      cases h1
      refine lv_i2l hx hb dL_line_7 rfl ?_
      refine k_last hc hM hS h2 in01 dL_line_8 (fun H locs hM hS => ?_)
      refine lv_goto (tgt := 15) hx hb dL_line_9 (by decide) ?_
      refine lv_iconst (v := 0) hx hb dL_line_15 (by decide) ?_
      exact k_iret hc hr dL_line_16 hM hS (Nat.le_of_ble_eq_true rfl) (Nat.le_of_ble_eq_true rfl) h3
    · rw [hres] at h1
      cases h1
  · rcases hO with ⟨w, M2, f, h1, h2, h3⟩ | ⟨k, E2, M2, h0, h1, h3⟩
    · rw [hres] at h1
      cases h1
    · rw [hres] at h1
      cases h1
      obtain ⟨rfl, rfl⟩ : k = 0 ∧ E = "java/lang/IndexOutOfBoundsException" := by
        match k, h0 with
        | 0, h0 => exact ⟨rfl, (Option.some.inj h0).symm⟩
        | k + 1, h0 => cases h0
      refine k_catch hc (E := "java/lang/IndexOutOfBoundsException") (by decide +kernel) [] ⟨0, 9, 12, 57⟩ [] ht (fun z hz => by cases hz) (by decide) (by decide) ql_L_57 hcell hcv hcl ?_
      refine lv_astore_n (lv' := [(3, .ref q9), (0, .ref x), (1, .int p0), (2, .ref o)]) hx hb dL_line_12 rfl hl (by decide) rfl (fun ls hl => ?_)
      refine lv_iconst (v := 1) hx hb dL_line_13 (by decide) ?_
      exact k_iret hc hr dL_line_14 hM hS (Nat.le_of_ble_eq_true rfl) (Nat.le_of_ble_eq_true rfl) h3
set_option maxHeartbeats 4000000 in
set_option maxRecDepth 100000 in
theorem c_L_character (l : Launch) (hlf : l.stackTraces = false) (g : GC) (M : HM) (x o : Nat) (p0 : Int32) {fs : List Value} (hx7 : M x = some (.inr (7, fs))) {res res2 : Rs} (hK : KM g l yX5_character cX5_character 2 (some .char) 6 3 18 [.ref x, .int p0] M res) (hO : hOut g o ["java/lang/IndexOutOfBoundsException"] res res2) : KH g l yL_character cL_character 4 [(0, 9, 12, 57)] 7 3 18 [.ref x, .int p0, .ref o] M res2 := by
  refine k_methH hlf (by decide) (Nat.le_of_ble_eq_true rfl) fun p e s m below meth c ls hc hr ht hM hS hl => ?_
  have hc : Cx g p l s m [.ref x, .int p0, .ref o].toArray meth c cL_character 4 RL := hc
  have hx := hc.1
  have hb := hc.2.1
  have hl : lv_has ls 4 [(0, .ref x), (1, .int p0), (2, .ref o)] := hl
  refine lv_aload_n hx hb dL_character_0 rfl (lv_at hl 2 rfl) ?_
  refine lv_iconst (v := 0) hx hb dL_character_1 (by decide) ?_
  refine lv_aload_n hx hb dL_character_2 rfl (lv_at hl 0 rfl) ?_
  refine lv_iload_n hx hb dL_character_3 rfl (lv_at hl 1 rfl) ?_
  refine k_goV hc (As := [.int p0]) (rest := [.int 0, .ref o]) cw_L_116 rfl dL_character_4 hK hx7 hM hS rfl hl.1 ⟨Nat.le_of_ble_eq_true rfl, Nat.le_of_ble_eq_true rfl⟩ ⟨Nat.le_of_ble_eq_true rfl, Nat.le_of_ble_eq_true rfl⟩ (Nat.le_of_ble_eq_true rfl) (fun v M1 H locs hres hM hS => ?_) (fun E M1 H locs q9 ce hres hM hS hcell hcv hcl => ?_)
  · rcases hO with ⟨w, M2, f, h1, h2, h3⟩ | ⟨k, E, M2, h0, h1, h3⟩
    · rw [hres] at h1
      cases h1
      refine lv_i2l hx hb dL_character_7 rfl ?_
      refine k_last hc hM hS h2 in01 dL_character_8 (fun H locs hM hS => ?_)
      refine lv_goto (tgt := 15) hx hb dL_character_9 (by decide) ?_
      refine lv_iconst (v := 0) hx hb dL_character_15 (by decide) ?_
      exact k_iret hc hr dL_character_16 hM hS (Nat.le_of_ble_eq_true rfl) (Nat.le_of_ble_eq_true rfl) h3
    · rw [hres] at h1
      cases h1
  · rcases hO with ⟨w, M2, f, h1, h2, h3⟩ | ⟨k, E2, M2, h0, h1, h3⟩
    · rw [hres] at h1
      cases h1
    · rw [hres] at h1
      cases h1
      obtain ⟨rfl, rfl⟩ : k = 0 ∧ E = "java/lang/IndexOutOfBoundsException" := by
        match k, h0 with
        | 0, h0 => exact ⟨rfl, (Option.some.inj h0).symm⟩
        | k + 1, h0 => cases h0
      refine k_catch hc (E := "java/lang/IndexOutOfBoundsException") (by decide +kernel) [] ⟨0, 9, 12, 57⟩ [] ht (fun z hz => by cases hz) (by decide) (by decide) ql_L_57 hcell hcv hcl ?_
      refine lv_astore_n (lv' := [(3, .ref q9), (0, .ref x), (1, .int p0), (2, .ref o)]) hx hb dL_character_12 rfl hl (by decide) rfl (fun ls hl => ?_)
      refine lv_iconst (v := 1) hx hb dL_character_13 (by decide) ?_
      exact k_iret hc hr dL_character_14 hM hS (Nat.le_of_ble_eq_true rfl) (Nat.le_of_ble_eq_true rfl) h3
set_option maxHeartbeats 4000000 in
set_option maxRecDepth 100000 in
theorem c_L_meanThirst (l : Launch) (hlf : l.stackTraces = false) (g : GC) (M : HM) (x o : Nat) {fs : List Value} (hx7 : M x = some (.inr (7, fs))) {res res2 : Rs} (hK : KM g l yX5_meanThirst cX5_meanThirst 2 (some .float) 6 3 18 [.ref x] M res) (hO : hOutF g o ["java/lang/ArithmeticException"] res res2) : KH g l yL_meanThirst cL_meanThirst 3 [(0, 8, 11, 124)] 7 3 18 [.ref x, .ref o] M res2 := by
  refine k_methH hlf (by decide) (Nat.le_of_ble_eq_true rfl) fun p e s m below meth c ls hc hr ht hM hS hl => ?_
  have hc : Cx g p l s m [.ref x, .ref o].toArray meth c cL_meanThirst 3 RL := hc
  have hx := hc.1
  have hb := hc.2.1
  have hl : lv_has ls 3 [(0, .ref x), (1, .ref o)] := hl
  refine lv_aload_n hx hb dL_meanThirst_0 rfl (lv_at hl 1 rfl) ?_
  refine lv_iconst (v := 0) hx hb dL_meanThirst_1 (by decide) ?_
  refine lv_aload_n hx hb dL_meanThirst_2 rfl (lv_at hl 0 rfl) ?_
  refine k_goV hc (As := []) (rest := [.int 0, .ref o]) cw_L_120 rfl dL_meanThirst_3 hK hx7 hM hS rfl hl.1 ⟨Nat.le_of_ble_eq_true rfl, Nat.le_of_ble_eq_true rfl⟩ ⟨Nat.le_of_ble_eq_true rfl, Nat.le_of_ble_eq_true rfl⟩ (Nat.le_of_ble_eq_true rfl) (fun v M1 H locs hres hM hS => ?_) (fun E M1 H locs q9 ce hres hM hS hcell hcv hcl => ?_)
  · rcases hO with ⟨w, M2, f, h1, hn, h2, h3⟩ | ⟨k, E, M2, h0, h1, h3⟩
    · rw [hres] at h1
      cases h1
      refine lv_f2d hx hb dL_meanThirst_6 hn ?_
      refine k_dast hc hM hS h2 in01 dL_meanThirst_7 (fun H locs hM hS => ?_)
      refine lv_goto (tgt := 14) hx hb dL_meanThirst_8 (by decide) ?_
      refine lv_iconst (v := 0) hx hb dL_meanThirst_14 (by decide) ?_
      exact k_iret hc hr dL_meanThirst_15 hM hS (Nat.le_of_ble_eq_true rfl) (Nat.le_of_ble_eq_true rfl) h3
    · rw [hres] at h1
      cases h1
  · rcases hO with ⟨w, M2, f, h1, hn, h2, h3⟩ | ⟨k, E2, M2, h0, h1, h3⟩
    · rw [hres] at h1
      cases h1
    · rw [hres] at h1
      cases h1
      obtain ⟨rfl, rfl⟩ : k = 0 ∧ E = "java/lang/ArithmeticException" := by
        match k, h0 with
        | 0, h0 => exact ⟨rfl, (Option.some.inj h0).symm⟩
        | k + 1, h0 => cases h0
      refine k_catch hc (E := "java/lang/ArithmeticException") (by decide +kernel) [] ⟨0, 8, 11, 124⟩ [] ht (fun z hz => by cases hz) (by decide) (by decide) ql_L_124 hcell hcv hcl ?_
      refine lv_astore_n (lv' := [(2, .ref q9), (0, .ref x), (1, .ref o)]) hx hb dL_meanThirst_11 rfl hl (by decide) rfl (fun ls hl => ?_)
      refine lv_iconst (v := 1) hx hb dL_meanThirst_12 (by decide) ?_
      exact k_iret hc hr dL_meanThirst_13 hM hS (Nat.le_of_ble_eq_true rfl) (Nat.le_of_ble_eq_true rfl) h3
set_option maxHeartbeats 4000000 in
set_option maxRecDepth 100000 in
theorem c_L_rightShare (l : Launch) (hlf : l.stackTraces = false) (g : GC) (M : HM) (x o : Nat) {fs : List Value} (hx7 : M x = some (.inr (7, fs))) {res res2 : Rs} (hK : KM g l yX5_rightShare cX5_rightShare 2 (some .double) 6 3 18 [.ref x] M res) (hO : hOutD g o ["java/lang/ArithmeticException"] res res2) : KH g l yL_rightShare cL_rightShare 3 [(0, 7, 10, 124)] 7 3 18 [.ref x, .ref o] M res2 := by
  refine k_methH hlf (by decide) (Nat.le_of_ble_eq_true rfl) fun p e s m below meth c ls hc hr ht hM hS hl => ?_
  have hc : Cx g p l s m [.ref x, .ref o].toArray meth c cL_rightShare 3 RL := hc
  have hx := hc.1
  have hb := hc.2.1
  have hl : lv_has ls 3 [(0, .ref x), (1, .ref o)] := hl
  refine lv_aload_n hx hb dL_rightShare_0 rfl (lv_at hl 1 rfl) ?_
  refine lv_iconst (v := 0) hx hb dL_rightShare_1 (by decide) ?_
  refine lv_aload_n hx hb dL_rightShare_2 rfl (lv_at hl 0 rfl) ?_
  refine k_goV hc (As := []) (rest := [.int 0, .ref o]) cw_L_126 rfl dL_rightShare_3 hK hx7 hM hS rfl hl.1 ⟨Nat.le_of_ble_eq_true rfl, Nat.le_of_ble_eq_true rfl⟩ ⟨Nat.le_of_ble_eq_true rfl, Nat.le_of_ble_eq_true rfl⟩ (Nat.le_of_ble_eq_true rfl) (fun v M1 H locs hres hM hS => ?_) (fun E M1 H locs q9 ce hres hM hS hcell hcv hcl => ?_)
  · rcases hO with ⟨w, M2, f, h1, h2, h3⟩ | ⟨k, E, M2, h0, h1, h3⟩
    · rw [hres] at h1
      cases h1
      refine k_dast hc hM hS h2 in01 dL_rightShare_6 (fun H locs hM hS => ?_)
      refine lv_goto (tgt := 13) hx hb dL_rightShare_7 (by decide) ?_
      refine lv_iconst (v := 0) hx hb dL_rightShare_13 (by decide) ?_
      exact k_iret hc hr dL_rightShare_14 hM hS (Nat.le_of_ble_eq_true rfl) (Nat.le_of_ble_eq_true rfl) h3
    · rw [hres] at h1
      cases h1
  · rcases hO with ⟨w, M2, f, h1, h2, h3⟩ | ⟨k, E2, M2, h0, h1, h3⟩
    · rw [hres] at h1
      cases h1
    · rw [hres] at h1
      cases h1
      obtain ⟨rfl, rfl⟩ : k = 0 ∧ E = "java/lang/ArithmeticException" := by
        match k, h0 with
        | 0, h0 => exact ⟨rfl, (Option.some.inj h0).symm⟩
        | k + 1, h0 => cases h0
      refine k_catch hc (E := "java/lang/ArithmeticException") (by decide +kernel) [] ⟨0, 7, 10, 124⟩ [] ht (fun z hz => by cases hz) (by decide) (by decide) ql_L_124 hcell hcv hcl ?_
      refine lv_astore_n (lv' := [(2, .ref q9), (0, .ref x), (1, .ref o)]) hx hb dL_rightShare_10 rfl hl (by decide) rfl (fun ls hl => ?_)
      refine lv_iconst (v := 1) hx hb dL_rightShare_11 (by decide) ?_
      exact k_iret hc hr dL_rightShare_12 hM hS (Nat.le_of_ble_eq_true rfl) (Nat.le_of_ble_eq_true rfl) h3
set_option maxHeartbeats 4000000 in
set_option maxRecDepth 100000 in
theorem c_L_account (l : Launch) (hlf : l.stackTraces = false) (g : GC) (M : HM) (x o : Nat) (p0 : Int32) {fs : List Value} (hx7 : M x = some (.inr (7, fs))) {res res2 : Rs} (hK : KM g l yX5_account cX5_account 2 (some .int) 6 3 18 [.ref x, .int p0] M res) (hO : hOut g o ["java/lang/IllegalArgumentException"] res res2) : KH g l yL_account cL_account 4 [(0, 9, 12, 66)] 7 3 18 [.ref x, .int p0, .ref o] M res2 := by
  refine k_methH hlf (by decide) (Nat.le_of_ble_eq_true rfl) fun p e s m below meth c ls hc hr ht hM hS hl => ?_
  have hc : Cx g p l s m [.ref x, .int p0, .ref o].toArray meth c cL_account 4 RL := hc
  have hx := hc.1
  have hb := hc.2.1
  have hl : lv_has ls 4 [(0, .ref x), (1, .int p0), (2, .ref o)] := hl
  refine lv_aload_n hx hb dL_account_0 rfl (lv_at hl 2 rfl) ?_
  refine lv_iconst (v := 0) hx hb dL_account_1 (by decide) ?_
  refine lv_aload_n hx hb dL_account_2 rfl (lv_at hl 0 rfl) ?_
  refine lv_iload_n hx hb dL_account_3 rfl (lv_at hl 1 rfl) ?_
  refine k_goV hc (As := [.int p0]) (rest := [.int 0, .ref o]) cw_L_130 rfl dL_account_4 hK hx7 hM hS rfl hl.1 ⟨Nat.le_of_ble_eq_true rfl, Nat.le_of_ble_eq_true rfl⟩ ⟨Nat.le_of_ble_eq_true rfl, Nat.le_of_ble_eq_true rfl⟩ (Nat.le_of_ble_eq_true rfl) (fun v M1 H locs hres hM hS => ?_) (fun E M1 H locs q9 ce hres hM hS hcell hcv hcl => ?_)
  · rcases hO with ⟨w, M2, f, h1, h2, h3⟩ | ⟨k, E, M2, h0, h1, h3⟩
    · rw [hres] at h1
      cases h1
      refine lv_i2l hx hb dL_account_7 rfl ?_
      refine k_last hc hM hS h2 in01 dL_account_8 (fun H locs hM hS => ?_)
      refine lv_goto (tgt := 15) hx hb dL_account_9 (by decide) ?_
      refine lv_iconst (v := 0) hx hb dL_account_15 (by decide) ?_
      exact k_iret hc hr dL_account_16 hM hS (Nat.le_of_ble_eq_true rfl) (Nat.le_of_ble_eq_true rfl) h3
    · rw [hres] at h1
      cases h1
  · rcases hO with ⟨w, M2, f, h1, h2, h3⟩ | ⟨k, E2, M2, h0, h1, h3⟩
    · rw [hres] at h1
      cases h1
    · rw [hres] at h1
      cases h1
      obtain ⟨rfl, rfl⟩ : k = 0 ∧ E = "java/lang/IllegalArgumentException" := by
        match k, h0 with
        | 0, h0 => exact ⟨rfl, (Option.some.inj h0).symm⟩
        | k + 1, h0 => cases h0
      refine k_catch hc (E := "java/lang/IllegalArgumentException") (by decide +kernel) [] ⟨0, 9, 12, 66⟩ [] ht (fun z hz => by cases hz) (by decide) (by decide) ql_L_66 hcell hcv hcl ?_
      refine lv_astore_n (lv' := [(3, .ref q9), (0, .ref x), (1, .int p0), (2, .ref o)]) hx hb dL_account_12 rfl hl (by decide) rfl (fun ls hl => ?_)
      refine lv_iconst (v := 1) hx hb dL_account_13 (by decide) ?_
      exact k_iret hc hr dL_account_14 hM hS (Nat.le_of_ble_eq_true rfl) (Nat.le_of_ble_eq_true rfl) h3
set_option maxHeartbeats 4000000 in
set_option maxRecDepth 100000 in
theorem c_L_undo (l : Launch) (hlf : l.stackTraces = false) (g : GC) (M : HM) (x o : Nat) {fs : List Value} (hx7 : M x = some (.inr (7, fs))) {res res2 : Rs} (hK : KM g l yX5_undo cX5_undo 1 (some .int) 6 3 18 [.ref x] M res) (hO : hOut g o ["java/lang/IllegalStateException"] res res2) : KH g l yL_undo cL_undo 3 [(0, 8, 11, 105)] 7 3 18 [.ref x, .ref o] M res2 := by
  refine k_methH hlf (by decide) (Nat.le_of_ble_eq_true rfl) fun p e s m below meth c ls hc hr ht hM hS hl => ?_
  have hc : Cx g p l s m [.ref x, .ref o].toArray meth c cL_undo 3 RL := hc
  have hx := hc.1
  have hb := hc.2.1
  have hl : lv_has ls 3 [(0, .ref x), (1, .ref o)] := hl
  refine lv_aload_n hx hb dL_undo_0 rfl (lv_at hl 1 rfl) ?_
  refine lv_iconst (v := 0) hx hb dL_undo_1 (by decide) ?_
  refine lv_aload_n hx hb dL_undo_2 rfl (lv_at hl 0 rfl) ?_
  refine k_goV hc (As := []) (rest := [.int 0, .ref o]) cw_L_133 rfl dL_undo_3 hK hx7 hM hS rfl hl.1 ⟨Nat.le_of_ble_eq_true rfl, Nat.le_of_ble_eq_true rfl⟩ ⟨Nat.le_of_ble_eq_true rfl, Nat.le_of_ble_eq_true rfl⟩ (Nat.le_of_ble_eq_true rfl) (fun v M1 H locs hres hM hS => ?_) (fun E M1 H locs q9 ce hres hM hS hcell hcv hcl => ?_)
  · rcases hO with ⟨w, M2, f, h1, h2, h3⟩ | ⟨k, E, M2, h0, h1, h3⟩
    · rw [hres] at h1
      cases h1
      refine lv_i2l hx hb dL_undo_6 rfl ?_
      refine k_last hc hM hS h2 in01 dL_undo_7 (fun H locs hM hS => ?_)
      refine lv_goto (tgt := 14) hx hb dL_undo_8 (by decide) ?_
      refine lv_iconst (v := 0) hx hb dL_undo_14 (by decide) ?_
      exact k_iret hc hr dL_undo_15 hM hS (Nat.le_of_ble_eq_true rfl) (Nat.le_of_ble_eq_true rfl) h3
    · rw [hres] at h1
      cases h1
  · rcases hO with ⟨w, M2, f, h1, h2, h3⟩ | ⟨k, E2, M2, h0, h1, h3⟩
    · rw [hres] at h1
      cases h1
    · rw [hres] at h1
      cases h1
      obtain ⟨rfl, rfl⟩ : k = 0 ∧ E = "java/lang/IllegalStateException" := by
        match k, h0 with
        | 0, h0 => exact ⟨rfl, (Option.some.inj h0).symm⟩
        | k + 1, h0 => cases h0
      refine k_catch hc (E := "java/lang/IllegalStateException") (by decide +kernel) [] ⟨0, 8, 11, 105⟩ [] ht (fun z hz => by cases hz) (by decide) (by decide) ql_L_105 hcell hcv hcl ?_
      refine lv_astore_n (lv' := [(2, .ref q9), (0, .ref x), (1, .ref o)]) hx hb dL_undo_11 rfl hl (by decide) rfl (fun ls hl => ?_)
      refine lv_iconst (v := 1) hx hb dL_undo_12 (by decide) ?_
      exact k_iret hc hr dL_undo_13 hM hS (Nat.le_of_ble_eq_true rfl) (Nat.le_of_ble_eq_true rfl) h3
set_option maxHeartbeats 4000000 in
set_option maxRecDepth 100000 in
theorem c_L_restore (l : Launch) (hlf : l.stackTraces = false) (g : GC) (M : HM) (x o : Nat) {fs : List Value} (hx7 : M x = some (.inr (7, fs))) {res res2 : Rs} (hK : KM g l yX5_restore cX5_restore 1 (some .int) 6 3 18 [.ref x] M res) (hO : hOut g o ["java/lang/IllegalStateException"] res res2) : KH g l yL_restore cL_restore 3 [(0, 8, 11, 105)] 7 3 18 [.ref x, .ref o] M res2 := by
  refine k_methH hlf (by decide) (Nat.le_of_ble_eq_true rfl) fun p e s m below meth c ls hc hr ht hM hS hl => ?_
  have hc : Cx g p l s m [.ref x, .ref o].toArray meth c cL_restore 3 RL := hc
  have hx := hc.1
  have hb := hc.2.1
  have hl : lv_has ls 3 [(0, .ref x), (1, .ref o)] := hl
  refine lv_aload_n hx hb dL_restore_0 rfl (lv_at hl 1 rfl) ?_
  refine lv_iconst (v := 0) hx hb dL_restore_1 (by decide) ?_
  refine lv_aload_n hx hb dL_restore_2 rfl (lv_at hl 0 rfl) ?_
  refine k_goV hc (As := []) (rest := [.int 0, .ref o]) cw_L_136 rfl dL_restore_3 hK hx7 hM hS rfl hl.1 ⟨Nat.le_of_ble_eq_true rfl, Nat.le_of_ble_eq_true rfl⟩ ⟨Nat.le_of_ble_eq_true rfl, Nat.le_of_ble_eq_true rfl⟩ (Nat.le_of_ble_eq_true rfl) (fun v M1 H locs hres hM hS => ?_) (fun E M1 H locs q9 ce hres hM hS hcell hcv hcl => ?_)
  · rcases hO with ⟨w, M2, f, h1, h2, h3⟩ | ⟨k, E, M2, h0, h1, h3⟩
    · rw [hres] at h1
      cases h1
      refine lv_i2l hx hb dL_restore_6 rfl ?_
      refine k_last hc hM hS h2 in01 dL_restore_7 (fun H locs hM hS => ?_)
      refine lv_goto (tgt := 14) hx hb dL_restore_8 (by decide) ?_
      refine lv_iconst (v := 0) hx hb dL_restore_14 (by decide) ?_
      exact k_iret hc hr dL_restore_15 hM hS (Nat.le_of_ble_eq_true rfl) (Nat.le_of_ble_eq_true rfl) h3
    · rw [hres] at h1
      cases h1
  · rcases hO with ⟨w, M2, f, h1, h2, h3⟩ | ⟨k, E2, M2, h0, h1, h3⟩
    · rw [hres] at h1
      cases h1
    · rw [hres] at h1
      cases h1
      obtain ⟨rfl, rfl⟩ : k = 0 ∧ E = "java/lang/IllegalStateException" := by
        match k, h0 with
        | 0, h0 => exact ⟨rfl, (Option.some.inj h0).symm⟩
        | k + 1, h0 => cases h0
      refine k_catch hc (E := "java/lang/IllegalStateException") (by decide +kernel) [] ⟨0, 8, 11, 105⟩ [] ht (fun z hz => by cases hz) (by decide) (by decide) ql_L_105 hcell hcv hcl ?_
      refine lv_astore_n (lv' := [(2, .ref q9), (0, .ref x), (1, .ref o)]) hx hb dL_restore_11 rfl hl (by decide) rfl (fun ls hl => ?_)
      refine lv_iconst (v := 1) hx hb dL_restore_12 (by decide) ?_
      exact k_iret hc hr dL_restore_13 hM hS (Nat.le_of_ble_eq_true rfl) (Nat.le_of_ble_eq_true rfl) h3
