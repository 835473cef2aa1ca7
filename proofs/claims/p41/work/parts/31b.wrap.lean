/-! THE LAW'S WRAPPERS: each calls one method of the class and catches what it throws -/
set_option maxHeartbeats 4000000 in
set_option maxRecDepth 100000 in
theorem c_L_stake (l : Launch) (hlf : l.stackTraces = false) (g : GC) (M : HM) (x : Nat) (i : Int32) {fs : List Value} (hx7 : M x = some (.inr (7, fs))) {res res2 : Rs} (hK : KM g l yX5_stake cX5_stake 2 (some .int) 7 1 6 [.ref x, .int i] M res) (hO : hW ["java/lang/UnsupportedOperationException"] res res2) (hB : ∀ (v : Value) (M1 : HM), res = .inl (some v, M1) → ∃ n : Int32, v = .int n) : KH g l yL_stake cL_stake 3 (some .int) [(0, 5, 6, 13)] 8 1 6 [.ref x, .int i] M res2 := by
  refine k_methH hlf (by decide) (Nat.le_of_ble_eq_true rfl) fun p e s m below meth c ls hc hr ht hM hS hl => ?_
  have hc : Cx g p l s m [.ref x, .int i].toArray meth c cL_stake 3 RL := hc
  have hx := hc.1
  have hb := hc.2.1
  have hl : lv_has ls 3 [(0, .ref x), (1, .int i)] := hl
  refine lv_aload_n hx hb dL_stake_0 rfl (lv_at hl 0 rfl) ?_
  refine lv_iload_n hx hb dL_stake_1 rfl (lv_at hl 1 rfl) ?_
  refine k_goV hc (As := [.int i]) (rest := []) cw_L_7 rfl dL_stake_2 hK hx7 hM hS rfl hl.1 ⟨Nat.le_of_ble_eq_true rfl, Nat.le_of_ble_eq_true rfl⟩ ⟨Nat.le_of_ble_eq_true rfl, Nat.le_of_ble_eq_true rfl⟩ (Nat.le_of_ble_eq_true rfl) (fun v M1 H locs hres hM hS => ?_) (fun E M1 H locs q9 ce hres hM hS hcell hcv hcl => ?_)
  · rcases hO with ⟨w, M2, h1, h3⟩ | ⟨k, E, M2, h0, h1, h3⟩
    · rw [hres] at h1
      cases h1
      obtain ⟨n, rfl⟩ := hB _ _ hres
      exact k_iret hc hr dL_stake_5 hM hS (Nat.le_of_ble_eq_true rfl) (Nat.le_of_ble_eq_true rfl) h3
    · rw [hres] at h1
      cases h1
  · rcases hO with ⟨w, M2, h1, h3⟩ | ⟨k, E2, M2, h0, h1, h3⟩
    · rw [hres] at h1
      cases h1
    · rw [hres] at h1
      cases h1
      obtain ⟨rfl, rfl⟩ := es1 h0
      refine k_catch hc (E := "java/lang/UnsupportedOperationException") (by decide +kernel) [] ⟨0, 5, 6, 13⟩ [] ht (fun z hz => by cases hz) (by decide) (by decide) ql_L_13 hcell hcv hcl ?_
      refine lv_astore_n (lv' := [(2, .ref q9), (0, .ref x), (1, .int i)]) hx hb dL_stake_6 rfl hl (by decide) rfl (fun ls hl => ?_)
      refine lv_sipush (v := (-1001)) hx hb dL_stake_7 (by decide) ?_
      exact k_iret hc hr dL_stake_10 hM hS (Nat.le_of_ble_eq_true rfl) (Nat.le_of_ble_eq_true rfl) h3
def v_stake (cs : CS) (i : Int32) : Int32 := if ¬ rvC (dsO (cs 0) i) = -1 then (rvC (dsO (cs 0) i)) else (-1001)
def s_stake (cs : CS) (i : Int32) : CS := if ¬ rvC (dsO (cs 0) i) = -1 then (kpS (rsC (bgS cs) (dsO (cs 0) i))) else (rsC (bgS cs) (dsO (cs 0) i))
theorem h_stake (l : Launch) (hlf : l.stackTraces = false) (g : GC) (M : HM) (x : Nat) (cs : CS) (i : Int32) (hW : ClsAt g M x cs) (hn : nxOk cs) : KH g l yL_stake cL_stake 3 (some .int) [(0, 5, 6, 13)] 8 1 6 [.ref x, .int i] M (.inl (some (.int (v_stake cs i)), putC g M x (s_stake cs i))) :=
  c_L_stake l hlf g M x i hW.o (c_X5_stake l hlf g M x cs i hW hn) (hW_s (fun _ => hW_ok) (fun _ => (hW_x0 rfl))) (fun v M1 h => by (repeat' split at h) <;> first | (cases h; exact ⟨_, rfl⟩) | cases h)
set_option maxHeartbeats 4000000 in
set_option maxRecDepth 100000 in
theorem c_L_post (l : Launch) (hlf : l.stackTraces = false) (g : GC) (M : HM) (x : Nat) (i j : Int32) {fs : List Value} (hx7 : M x = some (.inr (7, fs))) {res res2 : Rs} (hK : KM g l yX5_post cX5_post 3 (some .int) 7 1 6 [.ref x, .int i, .int j] M res) (hO : hW ["java/lang/UnsupportedOperationException"] res res2) (hB : ∀ (v : Value) (M1 : HM), res = .inl (some v, M1) → ∃ n : Int32, v = .int n) : KH g l yL_post cL_post 4 (some .int) [(0, 6, 7, 13)] 8 1 6 [.ref x, .int i, .int j] M res2 := by
  refine k_methH hlf (by decide) (Nat.le_of_ble_eq_true rfl) fun p e s m below meth c ls hc hr ht hM hS hl => ?_
  have hc : Cx g p l s m [.ref x, .int i, .int j].toArray meth c cL_post 4 RL := hc
  have hx := hc.1
  have hb := hc.2.1
  have hl : lv_has ls 4 [(0, .ref x), (1, .int i), (2, .int j)] := hl
  refine lv_aload_n hx hb dL_post_0 rfl (lv_at hl 0 rfl) ?_
  refine lv_iload_n hx hb dL_post_1 rfl (lv_at hl 1 rfl) ?_
  refine lv_iload_n hx hb dL_post_2 rfl (lv_at hl 2 rfl) ?_
  refine k_goV hc (As := [.int i, .int j]) (rest := []) cw_L_15 rfl dL_post_3 hK hx7 hM hS rfl hl.1 ⟨Nat.le_of_ble_eq_true rfl, Nat.le_of_ble_eq_true rfl⟩ ⟨Nat.le_of_ble_eq_true rfl, Nat.le_of_ble_eq_true rfl⟩ (Nat.le_of_ble_eq_true rfl) (fun v M1 H locs hres hM hS => ?_) (fun E M1 H locs q9 ce hres hM hS hcell hcv hcl => ?_)
  · rcases hO with ⟨w, M2, h1, h3⟩ | ⟨k, E, M2, h0, h1, h3⟩
    · rw [hres] at h1
      cases h1
      obtain ⟨n, rfl⟩ := hB _ _ hres
      exact k_iret hc hr dL_post_6 hM hS (Nat.le_of_ble_eq_true rfl) (Nat.le_of_ble_eq_true rfl) h3
    · rw [hres] at h1
      cases h1
  · rcases hO with ⟨w, M2, h1, h3⟩ | ⟨k, E2, M2, h0, h1, h3⟩
    · rw [hres] at h1
      cases h1
    · rw [hres] at h1
      cases h1
      obtain ⟨rfl, rfl⟩ := es1 h0
      refine k_catch hc (E := "java/lang/UnsupportedOperationException") (by decide +kernel) [] ⟨0, 6, 7, 13⟩ [] ht (fun z hz => by cases hz) (by decide) (by decide) ql_L_13 hcell hcv hcl ?_
      refine lv_astore_n (lv' := [(3, .ref q9), (0, .ref x), (1, .int i), (2, .int j)]) hx hb dL_post_7 rfl hl (by decide) rfl (fun ls hl => ?_)
      refine lv_sipush (v := (-1001)) hx hb dL_post_8 (by decide) ?_
      exact k_iret hc hr dL_post_11 hM hS (Nat.le_of_ble_eq_true rfl) (Nat.le_of_ble_eq_true rfl) h3
def v_post (cs : CS) (i : Int32) (j : Int32) : Int32 := if ¬ rvC (spO (cs 0) i j) = -1 then (rvC (spO (cs 0) i j)) else (-1001)
def s_post (cs : CS) (i : Int32) (j : Int32) : CS := if ¬ rvC (spO (cs 0) i j) = -1 then (kpS (rsC (bgS cs) (spO (cs 0) i j))) else (rsC (bgS cs) (spO (cs 0) i j))
theorem h_post (l : Launch) (hlf : l.stackTraces = false) (g : GC) (M : HM) (x : Nat) (cs : CS) (i : Int32) (j : Int32) (hW : ClsAt g M x cs) (hn : nxOk cs) : KH g l yL_post cL_post 4 (some .int) [(0, 6, 7, 13)] 8 1 6 [.ref x, .int i, .int j] M (.inl (some (.int (v_post cs i j)), putC g M x (s_post cs i j))) :=
  c_L_post l hlf g M x i j hW.o (c_X5_post l hlf g M x cs i j hW hn) (hW_s (fun _ => hW_ok) (fun _ => (hW_x0 rfl))) (fun v M1 h => by (repeat' split at h) <;> first | (cases h; exact ⟨_, rfl⟩) | cases h)
set_option maxHeartbeats 4000000 in
set_option maxRecDepth 100000 in
theorem c_L_sheet (l : Launch) (hlf : l.stackTraces = false) (g : GC) (M : HM) (x : Nat) {fs : List Value} (hx7 : M x = some (.inr (7, fs))) {res res2 : Rs} (hK : KM g l yX5_sheet cX5_sheet 1 (some .int) 7 1 6 [.ref x] M res) (hO : hW ["java/lang/UnsupportedOperationException"] res res2) (hB : ∀ (v : Value) (M1 : HM), res = .inl (some v, M1) → ∃ n : Int32, v = .int n) : KH g l yL_sheet cL_sheet 2 (some .int) [(0, 4, 5, 13)] 8 1 6 [.ref x] M res2 := by
  refine k_methH hlf (by decide) (Nat.le_of_ble_eq_true rfl) fun p e s m below meth c ls hc hr ht hM hS hl => ?_
  have hc : Cx g p l s m [.ref x].toArray meth c cL_sheet 2 RL := hc
  have hx := hc.1
  have hb := hc.2.1
  have hl : lv_has ls 2 [(0, .ref x)] := hl
  refine lv_aload_n hx hb dL_sheet_0 rfl (lv_at hl 0 rfl) ?_
  refine k_goV hc (As := []) (rest := []) cw_L_19 rfl dL_sheet_1 hK hx7 hM hS rfl hl.1 ⟨Nat.le_of_ble_eq_true rfl, Nat.le_of_ble_eq_true rfl⟩ ⟨Nat.le_of_ble_eq_true rfl, Nat.le_of_ble_eq_true rfl⟩ (Nat.le_of_ble_eq_true rfl) (fun v M1 H locs hres hM hS => ?_) (fun E M1 H locs q9 ce hres hM hS hcell hcv hcl => ?_)
  · rcases hO with ⟨w, M2, h1, h3⟩ | ⟨k, E, M2, h0, h1, h3⟩
    · rw [hres] at h1
      cases h1
      obtain ⟨n, rfl⟩ := hB _ _ hres
      exact k_iret hc hr dL_sheet_4 hM hS (Nat.le_of_ble_eq_true rfl) (Nat.le_of_ble_eq_true rfl) h3
    · rw [hres] at h1
      cases h1
  · rcases hO with ⟨w, M2, h1, h3⟩ | ⟨k, E2, M2, h0, h1, h3⟩
    · rw [hres] at h1
      cases h1
    · rw [hres] at h1
      cases h1
      obtain ⟨rfl, rfl⟩ := es1 h0
      refine k_catch hc (E := "java/lang/UnsupportedOperationException") (by decide +kernel) [] ⟨0, 4, 5, 13⟩ [] ht (fun z hz => by cases hz) (by decide) (by decide) ql_L_13 hcell hcv hcl ?_
      refine lv_astore_n (lv' := [(1, .ref q9), (0, .ref x)]) hx hb dL_sheet_5 rfl hl (by decide) rfl (fun ls hl => ?_)
      refine lv_sipush (v := (-1001)) hx hb dL_sheet_6 (by decide) ?_
      exact k_iret hc hr dL_sheet_9 hM hS (Nat.le_of_ble_eq_true rfl) (Nat.le_of_ble_eq_true rfl) h3
def v_sheet (cs : CS) : Int32 := if ¬ rvC (asO (cs 0)) = -1 then (rvC (asO (cs 0))) else (-1001)
def s_sheet (cs : CS) : CS := if ¬ rvC (asO (cs 0)) = -1 then (kpS (rsC (bgS cs) (asO (cs 0)))) else (rsC (bgS cs) (asO (cs 0)))
theorem h_sheet (l : Launch) (hlf : l.stackTraces = false) (g : GC) (M : HM) (x : Nat) (cs : CS) (hW : ClsAt g M x cs) (hn : nxOk cs) : KH g l yL_sheet cL_sheet 2 (some .int) [(0, 4, 5, 13)] 8 1 6 [.ref x] M (.inl (some (.int (v_sheet cs)), putC g M x (s_sheet cs))) :=
  c_L_sheet l hlf g M x hW.o (c_X5_sheet l hlf g M x cs hW hn) (hW_s (fun _ => hW_ok) (fun _ => (hW_x0 rfl))) (fun v M1 h => by (repeat' split at h) <;> first | (cases h; exact ⟨_, rfl⟩) | cases h)
set_option maxHeartbeats 4000000 in
set_option maxRecDepth 100000 in
theorem c_L_heat (l : Launch) (hlf : l.stackTraces = false) (g : GC) (M : HM) (x : Nat) (i : Int32) {fs : List Value} (hx7 : M x = some (.inr (7, fs))) {res res2 : Rs} (hK : KM g l yX5_heat cX5_heat 2 (some .int) 7 1 6 [.ref x, .int i] M res) (hO : hW ["java/lang/UnsupportedOperationException"] res res2) (hB : ∀ (v : Value) (M1 : HM), res = .inl (some v, M1) → ∃ n : Int32, v = .int n) : KH g l yL_heat cL_heat 3 (some .int) [(0, 5, 6, 13)] 8 1 6 [.ref x, .int i] M res2 := by
  refine k_methH hlf (by decide) (Nat.le_of_ble_eq_true rfl) fun p e s m below meth c ls hc hr ht hM hS hl => ?_
  have hc : Cx g p l s m [.ref x, .int i].toArray meth c cL_heat 3 RL := hc
  have hx := hc.1
  have hb := hc.2.1
  have hl : lv_has ls 3 [(0, .ref x), (1, .int i)] := hl
  refine lv_aload_n hx hb dL_heat_0 rfl (lv_at hl 0 rfl) ?_
  refine lv_iload_n hx hb dL_heat_1 rfl (lv_at hl 1 rfl) ?_
  refine k_goV hc (As := [.int i]) (rest := []) cw_L_23 rfl dL_heat_2 hK hx7 hM hS rfl hl.1 ⟨Nat.le_of_ble_eq_true rfl, Nat.le_of_ble_eq_true rfl⟩ ⟨Nat.le_of_ble_eq_true rfl, Nat.le_of_ble_eq_true rfl⟩ (Nat.le_of_ble_eq_true rfl) (fun v M1 H locs hres hM hS => ?_) (fun E M1 H locs q9 ce hres hM hS hcell hcv hcl => ?_)
  · rcases hO with ⟨w, M2, h1, h3⟩ | ⟨k, E, M2, h0, h1, h3⟩
    · rw [hres] at h1
      cases h1
      obtain ⟨n, rfl⟩ := hB _ _ hres
      exact k_iret hc hr dL_heat_5 hM hS (Nat.le_of_ble_eq_true rfl) (Nat.le_of_ble_eq_true rfl) h3
    · rw [hres] at h1
      cases h1
  · rcases hO with ⟨w, M2, h1, h3⟩ | ⟨k, E2, M2, h0, h1, h3⟩
    · rw [hres] at h1
      cases h1
    · rw [hres] at h1
      cases h1
      obtain ⟨rfl, rfl⟩ := es1 h0
      refine k_catch hc (E := "java/lang/UnsupportedOperationException") (by decide +kernel) [] ⟨0, 5, 6, 13⟩ [] ht (fun z hz => by cases hz) (by decide) (by decide) ql_L_13 hcell hcv hcl ?_
      refine lv_astore_n (lv' := [(2, .ref q9), (0, .ref x), (1, .int i)]) hx hb dL_heat_6 rfl hl (by decide) rfl (fun ls hl => ?_)
      refine lv_sipush (v := (-1001)) hx hb dL_heat_7 (by decide) ?_
      exact k_iret hc hr dL_heat_10 hM hS (Nat.le_of_ble_eq_true rfl) (Nat.le_of_ble_eq_true rfl) h3
def v_heat (cs : CS) (i : Int32) : Int32 := if ¬ rvC (shO (cs 0) i) = -1 then (rvC (shO (cs 0) i)) else (-1001)
def s_heat (cs : CS) (i : Int32) : CS := if ¬ rvC (shO (cs 0) i) = -1 then (kpS (rsC (bgS cs) (shO (cs 0) i))) else (rsC (bgS cs) (shO (cs 0) i))
theorem h_heat (l : Launch) (hlf : l.stackTraces = false) (g : GC) (M : HM) (x : Nat) (cs : CS) (i : Int32) (hW : ClsAt g M x cs) (hn : nxOk cs) : KH g l yL_heat cL_heat 3 (some .int) [(0, 5, 6, 13)] 8 1 6 [.ref x, .int i] M (.inl (some (.int (v_heat cs i)), putC g M x (s_heat cs i))) :=
  c_L_heat l hlf g M x i hW.o (c_X5_heat l hlf g M x cs i hW hn) (hW_s (fun _ => hW_ok) (fun _ => (hW_x0 rfl))) (fun v M1 h => by (repeat' split at h) <;> first | (cases h; exact ⟨_, rfl⟩) | cases h)
set_option maxHeartbeats 4000000 in
set_option maxRecDepth 100000 in
theorem c_L_sight (l : Launch) (hlf : l.stackTraces = false) (g : GC) (M : HM) (x : Nat) (i j o : Int32) {fs : List Value} (hx7 : M x = some (.inr (7, fs))) {res res2 : Rs} (hK : KM g l yX5_sight cX5_sight 4 (some .int) 9 1 6 [.ref x, .int i, .int j, .int o] M res) (hO : hW ["java/lang/UnsupportedOperationException"] res res2) (hB : ∀ (v : Value) (M1 : HM), res = .inl (some v, M1) → ∃ n : Int32, v = .int n) : KH g l yL_sight cL_sight 5 (some .int) [(0, 7, 8, 13)] 10 1 6 [.ref x, .int i, .int j, .int o] M res2 := by
  refine k_methH hlf (by decide) (Nat.le_of_ble_eq_true rfl) fun p e s m below meth c ls hc hr ht hM hS hl => ?_
  have hc : Cx g p l s m [.ref x, .int i, .int j, .int o].toArray meth c cL_sight 5 RL := hc
  have hx := hc.1
  have hb := hc.2.1
  have hl : lv_has ls 5 [(0, .ref x), (1, .int i), (2, .int j), (3, .int o)] := hl
  refine lv_aload_n hx hb dL_sight_0 rfl (lv_at hl 0 rfl) ?_
  refine lv_iload_n hx hb dL_sight_1 rfl (lv_at hl 1 rfl) ?_
  refine lv_iload_n hx hb dL_sight_2 rfl (lv_at hl 2 rfl) ?_
  refine lv_iload_n hx hb dL_sight_3 rfl (lv_at hl 3 rfl) ?_
  refine k_goV hc (As := [.int i, .int j, .int o]) (rest := []) cw_L_26 rfl dL_sight_4 hK hx7 hM hS rfl hl.1 ⟨Nat.le_of_ble_eq_true rfl, Nat.le_of_ble_eq_true rfl⟩ ⟨Nat.le_of_ble_eq_true rfl, Nat.le_of_ble_eq_true rfl⟩ (Nat.le_of_ble_eq_true rfl) (fun v M1 H locs hres hM hS => ?_) (fun E M1 H locs q9 ce hres hM hS hcell hcv hcl => ?_)
  · rcases hO with ⟨w, M2, h1, h3⟩ | ⟨k, E, M2, h0, h1, h3⟩
    · rw [hres] at h1
      cases h1
      obtain ⟨n, rfl⟩ := hB _ _ hres
      exact k_iret hc hr dL_sight_7 hM hS (Nat.le_of_ble_eq_true rfl) (Nat.le_of_ble_eq_true rfl) h3
    · rw [hres] at h1
      cases h1
  · rcases hO with ⟨w, M2, h1, h3⟩ | ⟨k, E2, M2, h0, h1, h3⟩
    · rw [hres] at h1
      cases h1
    · rw [hres] at h1
      cases h1
      obtain ⟨rfl, rfl⟩ := es1 h0
      refine k_catch hc (E := "java/lang/UnsupportedOperationException") (by decide +kernel) [] ⟨0, 7, 8, 13⟩ [] ht (fun z hz => by cases hz) (by decide) (by decide) ql_L_13 hcell hcv hcl ?_
      refine lv_astore (lv' := [(4, .ref q9), (0, .ref x), (1, .int i), (2, .int j), (3, .int o)]) hx hb dL_sight_8 hl (by decide) rfl (fun ls hl => ?_)
      refine lv_sipush (v := (-1001)) hx hb dL_sight_10 (by decide) ?_
      exact k_iret hc hr dL_sight_13 hM hS (Nat.le_of_ble_eq_true rfl) (Nat.le_of_ble_eq_true rfl) h3
def v_sight (cs : CS) (i : Int32) (j : Int32) (o : Int32) : Int32 := if ¬ rvC (sgO (cs 0) i j o) = -1 then (rvC (sgO (cs 0) i j o)) else (-1001)
def s_sight (cs : CS) (i : Int32) (j : Int32) (o : Int32) : CS := if ¬ rvC (sgO (cs 0) i j o) = -1 then (kpS (rsC (bgS cs) (sgO (cs 0) i j o))) else (rsC (bgS cs) (sgO (cs 0) i j o))
theorem h_sight (l : Launch) (hlf : l.stackTraces = false) (g : GC) (M : HM) (x : Nat) (cs : CS) (i : Int32) (j : Int32) (o : Int32) (hW : ClsAt g M x cs) (hn : nxOk cs) : KH g l yL_sight cL_sight 5 (some .int) [(0, 7, 8, 13)] 10 1 6 [.ref x, .int i, .int j, .int o] M (.inl (some (.int (v_sight cs i j o)), putC g M x (s_sight cs i j o))) :=
  c_L_sight l hlf g M x i j o hW.o (c_X5_sight l hlf g M x cs i j o hW hn) (hW_s (fun _ => hW_ok) (fun _ => (hW_x0 rfl))) (fun v M1 h => by (repeat' split at h) <;> first | (cases h; exact ⟨_, rfl⟩) | cases h)
set_option maxHeartbeats 4000000 in
set_option maxRecDepth 100000 in
theorem c_L_camel (l : Launch) (hlf : l.stackTraces = false) (g : GC) (M : HM) (x : Nat) (i : Int32) {fs : List Value} (hx7 : M x = some (.inr (7, fs))) {res res2 : Rs} (hK : KM g l yX5_camel cX5_camel 2 (some .int) 7 1 6 [.ref x, .int i] M res) (hO : hW ["java/lang/UnsupportedOperationException"] res res2) (hB : ∀ (v : Value) (M1 : HM), res = .inl (some v, M1) → ∃ n : Int32, v = .int n) : KH g l yL_camel cL_camel 3 (some .int) [(0, 5, 6, 13)] 8 1 6 [.ref x, .int i] M res2 := by
  refine k_methH hlf (by decide) (Nat.le_of_ble_eq_true rfl) fun p e s m below meth c ls hc hr ht hM hS hl => ?_
  have hc : Cx g p l s m [.ref x, .int i].toArray meth c cL_camel 3 RL := hc
  have hx := hc.1
  have hb := hc.2.1
  have hl : lv_has ls 3 [(0, .ref x), (1, .int i)] := hl
  refine lv_aload_n hx hb dL_camel_0 rfl (lv_at hl 0 rfl) ?_
  refine lv_iload_n hx hb dL_camel_1 rfl (lv_at hl 1 rfl) ?_
  refine k_goV hc (As := [.int i]) (rest := []) cw_L_33 rfl dL_camel_2 hK hx7 hM hS rfl hl.1 ⟨Nat.le_of_ble_eq_true rfl, Nat.le_of_ble_eq_true rfl⟩ ⟨Nat.le_of_ble_eq_true rfl, Nat.le_of_ble_eq_true rfl⟩ (Nat.le_of_ble_eq_true rfl) (fun v M1 H locs hres hM hS => ?_) (fun E M1 H locs q9 ce hres hM hS hcell hcv hcl => ?_)
  · rcases hO with ⟨w, M2, h1, h3⟩ | ⟨k, E, M2, h0, h1, h3⟩
    · rw [hres] at h1
      cases h1
      obtain ⟨n, rfl⟩ := hB _ _ hres
      exact k_iret hc hr dL_camel_5 hM hS (Nat.le_of_ble_eq_true rfl) (Nat.le_of_ble_eq_true rfl) h3
    · rw [hres] at h1
      cases h1
  · rcases hO with ⟨w, M2, h1, h3⟩ | ⟨k, E2, M2, h0, h1, h3⟩
    · rw [hres] at h1
      cases h1
    · rw [hres] at h1
      cases h1
      obtain ⟨rfl, rfl⟩ := es1 h0
      refine k_catch hc (E := "java/lang/UnsupportedOperationException") (by decide +kernel) [] ⟨0, 5, 6, 13⟩ [] ht (fun z hz => by cases hz) (by decide) (by decide) ql_L_13 hcell hcv hcl ?_
      refine lv_astore_n (lv' := [(2, .ref q9), (0, .ref x), (1, .int i)]) hx hb dL_camel_6 rfl hl (by decide) rfl (fun ls hl => ?_)
      refine lv_sipush (v := (-1001)) hx hb dL_camel_7 (by decide) ?_
      exact k_iret hc hr dL_camel_10 hM hS (Nat.le_of_ble_eq_true rfl) (Nat.le_of_ble_eq_true rfl) h3
def v_camel (cs : CS) (i : Int32) : Int32 := if ¬ rvC (caO (cs 0) i) = -1 then (rvC (caO (cs 0) i)) else (-1001)
def s_camel (cs : CS) (i : Int32) : CS := if ¬ rvC (caO (cs 0) i) = -1 then (kpS (rsC (bgS cs) (caO (cs 0) i))) else (rsC (bgS cs) (caO (cs 0) i))
theorem h_camel (l : Launch) (hlf : l.stackTraces = false) (g : GC) (M : HM) (x : Nat) (cs : CS) (i : Int32) (hW : ClsAt g M x cs) (hn : nxOk cs) : KH g l yL_camel cL_camel 3 (some .int) [(0, 5, 6, 13)] 8 1 6 [.ref x, .int i] M (.inl (some (.int (v_camel cs i)), putC g M x (s_camel cs i))) :=
  c_L_camel l hlf g M x i hW.o (c_X5_camel l hlf g M x cs i hW hn) (hW_s (fun _ => hW_ok) (fun _ => (hW_x0 rfl))) (fun v M1 h => by (repeat' split at h) <;> first | (cases h; exact ⟨_, rfl⟩) | cases h)
set_option maxHeartbeats 4000000 in
set_option maxRecDepth 100000 in
theorem c_L_bell (l : Launch) (hlf : l.stackTraces = false) (g : GC) (M : HM) (x : Nat) (i : Int32) {fs : List Value} (hx7 : M x = some (.inr (7, fs))) {res res2 : Rs} (hK : KM g l yX5_bell cX5_bell 2 (some .int) 7 1 6 [.ref x, .int i] M res) (hO : hW ["java/lang/UnsupportedOperationException"] res res2) (hB : ∀ (v : Value) (M1 : HM), res = .inl (some v, M1) → ∃ n : Int32, v = .int n) : KH g l yL_bell cL_bell 3 (some .int) [(0, 5, 6, 13)] 8 1 6 [.ref x, .int i] M res2 := by
  refine k_methH hlf (by decide) (Nat.le_of_ble_eq_true rfl) fun p e s m below meth c ls hc hr ht hM hS hl => ?_
  have hc : Cx g p l s m [.ref x, .int i].toArray meth c cL_bell 3 RL := hc
  have hx := hc.1
  have hb := hc.2.1
  have hl : lv_has ls 3 [(0, .ref x), (1, .int i)] := hl
  refine lv_aload_n hx hb dL_bell_0 rfl (lv_at hl 0 rfl) ?_
  refine lv_iload_n hx hb dL_bell_1 rfl (lv_at hl 1 rfl) ?_
  refine k_goV hc (As := [.int i]) (rest := []) cw_L_36 rfl dL_bell_2 hK hx7 hM hS rfl hl.1 ⟨Nat.le_of_ble_eq_true rfl, Nat.le_of_ble_eq_true rfl⟩ ⟨Nat.le_of_ble_eq_true rfl, Nat.le_of_ble_eq_true rfl⟩ (Nat.le_of_ble_eq_true rfl) (fun v M1 H locs hres hM hS => ?_) (fun E M1 H locs q9 ce hres hM hS hcell hcv hcl => ?_)
  · rcases hO with ⟨w, M2, h1, h3⟩ | ⟨k, E, M2, h0, h1, h3⟩
    · rw [hres] at h1
      cases h1
      obtain ⟨n, rfl⟩ := hB _ _ hres
      exact k_iret hc hr dL_bell_5 hM hS (Nat.le_of_ble_eq_true rfl) (Nat.le_of_ble_eq_true rfl) h3
    · rw [hres] at h1
      cases h1
  · rcases hO with ⟨w, M2, h1, h3⟩ | ⟨k, E2, M2, h0, h1, h3⟩
    · rw [hres] at h1
      cases h1
    · rw [hres] at h1
      cases h1
      obtain ⟨rfl, rfl⟩ := es1 h0
      refine k_catch hc (E := "java/lang/UnsupportedOperationException") (by decide +kernel) [] ⟨0, 5, 6, 13⟩ [] ht (fun z hz => by cases hz) (by decide) (by decide) ql_L_13 hcell hcv hcl ?_
      refine lv_astore_n (lv' := [(2, .ref q9), (0, .ref x), (1, .int i)]) hx hb dL_bell_6 rfl hl (by decide) rfl (fun ls hl => ?_)
      refine lv_sipush (v := (-1001)) hx hb dL_bell_7 (by decide) ?_
      exact k_iret hc hr dL_bell_10 hM hS (Nat.le_of_ble_eq_true rfl) (Nat.le_of_ble_eq_true rfl) h3
def v_bell (cs : CS) (i : Int32) : Int32 := if ¬ rvC (rbO (cs 0) i) = -1 then (rvC (rbO (cs 0) i)) else (-1001)
def s_bell (cs : CS) (i : Int32) : CS := if ¬ rvC (rbO (cs 0) i) = -1 then (kpS (rsC (bgS cs) (rbO (cs 0) i))) else (rsC (bgS cs) (rbO (cs 0) i))
theorem h_bell (l : Launch) (hlf : l.stackTraces = false) (g : GC) (M : HM) (x : Nat) (cs : CS) (i : Int32) (hW : ClsAt g M x cs) (hn : nxOk cs) : KH g l yL_bell cL_bell 3 (some .int) [(0, 5, 6, 13)] 8 1 6 [.ref x, .int i] M (.inl (some (.int (v_bell cs i)), putC g M x (s_bell cs i))) :=
  c_L_bell l hlf g M x i hW.o (c_X5_bell l hlf g M x cs i hW hn) (hW_s (fun _ => hW_ok) (fun _ => (hW_x0 rfl))) (fun v M1 h => by (repeat' split at h) <;> first | (cases h; exact ⟨_, rfl⟩) | cases h)
set_option maxHeartbeats 4000000 in
set_option maxRecDepth 100000 in
theorem c_L_tie (l : Launch) (hlf : l.stackTraces = false) (g : GC) (M : HM) (x : Nat) (i : Int32) {fs : List Value} (hx7 : M x = some (.inr (7, fs))) {res res2 : Rs} (hK : KM g l yX5_tie cX5_tie 2 (some .int) 7 1 6 [.ref x, .int i] M res) (hO : hW ["java/lang/UnsupportedOperationException"] res res2) (hB : ∀ (v : Value) (M1 : HM), res = .inl (some v, M1) → ∃ n : Int32, v = .int n) : KH g l yL_tie cL_tie 3 (some .int) [(0, 5, 6, 13)] 8 1 6 [.ref x, .int i] M res2 := by
  refine k_methH hlf (by decide) (Nat.le_of_ble_eq_true rfl) fun p e s m below meth c ls hc hr ht hM hS hl => ?_
  have hc : Cx g p l s m [.ref x, .int i].toArray meth c cL_tie 3 RL := hc
  have hx := hc.1
  have hb := hc.2.1
  have hl : lv_has ls 3 [(0, .ref x), (1, .int i)] := hl
  refine lv_aload_n hx hb dL_tie_0 rfl (lv_at hl 0 rfl) ?_
  refine lv_iload_n hx hb dL_tie_1 rfl (lv_at hl 1 rfl) ?_
  refine k_goV hc (As := [.int i]) (rest := []) cw_L_39 rfl dL_tie_2 hK hx7 hM hS rfl hl.1 ⟨Nat.le_of_ble_eq_true rfl, Nat.le_of_ble_eq_true rfl⟩ ⟨Nat.le_of_ble_eq_true rfl, Nat.le_of_ble_eq_true rfl⟩ (Nat.le_of_ble_eq_true rfl) (fun v M1 H locs hres hM hS => ?_) (fun E M1 H locs q9 ce hres hM hS hcell hcv hcl => ?_)
  · rcases hO with ⟨w, M2, h1, h3⟩ | ⟨k, E, M2, h0, h1, h3⟩
    · rw [hres] at h1
      cases h1
      obtain ⟨n, rfl⟩ := hB _ _ hres
      exact k_iret hc hr dL_tie_5 hM hS (Nat.le_of_ble_eq_true rfl) (Nat.le_of_ble_eq_true rfl) h3
    · rw [hres] at h1
      cases h1
  · rcases hO with ⟨w, M2, h1, h3⟩ | ⟨k, E2, M2, h0, h1, h3⟩
    · rw [hres] at h1
      cases h1
    · rw [hres] at h1
      cases h1
      obtain ⟨rfl, rfl⟩ := es1 h0
      refine k_catch hc (E := "java/lang/UnsupportedOperationException") (by decide +kernel) [] ⟨0, 5, 6, 13⟩ [] ht (fun z hz => by cases hz) (by decide) (by decide) ql_L_13 hcell hcv hcl ?_
      refine lv_astore_n (lv' := [(2, .ref q9), (0, .ref x), (1, .int i)]) hx hb dL_tie_6 rfl hl (by decide) rfl (fun ls hl => ?_)
      refine lv_sipush (v := (-1001)) hx hb dL_tie_7 (by decide) ?_
      exact k_iret hc hr dL_tie_10 hM hS (Nat.le_of_ble_eq_true rfl) (Nat.le_of_ble_eq_true rfl) h3
def v_tie (cs : CS) (i : Int32) : Int32 := if ¬ rvC (tiO (cs 0) i) = -1 then (rvC (tiO (cs 0) i)) else (-1001)
def s_tie (cs : CS) (i : Int32) : CS := if ¬ rvC (tiO (cs 0) i) = -1 then (kpS (rsC (bgS cs) (tiO (cs 0) i))) else (rsC (bgS cs) (tiO (cs 0) i))
theorem h_tie (l : Launch) (hlf : l.stackTraces = false) (g : GC) (M : HM) (x : Nat) (cs : CS) (i : Int32) (hW : ClsAt g M x cs) (hn : nxOk cs) : KH g l yL_tie cL_tie 3 (some .int) [(0, 5, 6, 13)] 8 1 6 [.ref x, .int i] M (.inl (some (.int (v_tie cs i)), putC g M x (s_tie cs i))) :=
  c_L_tie l hlf g M x i hW.o (c_X5_tie l hlf g M x cs i hW hn) (hW_s (fun _ => hW_ok) (fun _ => (hW_x0 rfl))) (fun v M1 h => by (repeat' split at h) <;> first | (cases h; exact ⟨_, rfl⟩) | cases h)
set_option maxHeartbeats 4000000 in
set_option maxRecDepth 100000 in
theorem c_L_loose (l : Launch) (hlf : l.stackTraces = false) (g : GC) (M : HM) (x : Nat) (i : Int32) {fs : List Value} (hx7 : M x = some (.inr (7, fs))) {res res2 : Rs} (hK : KM g l yX5_loose cX5_loose 2 (some .int) 7 1 6 [.ref x, .int i] M res) (hO : hW ["java/lang/UnsupportedOperationException"] res res2) (hB : ∀ (v : Value) (M1 : HM), res = .inl (some v, M1) → ∃ n : Int32, v = .int n) : KH g l yL_loose cL_loose 3 (some .int) [(0, 5, 6, 13)] 8 1 6 [.ref x, .int i] M res2 := by
  refine k_methH hlf (by decide) (Nat.le_of_ble_eq_true rfl) fun p e s m below meth c ls hc hr ht hM hS hl => ?_
  have hc : Cx g p l s m [.ref x, .int i].toArray meth c cL_loose 3 RL := hc
  have hx := hc.1
  have hb := hc.2.1
  have hl : lv_has ls 3 [(0, .ref x), (1, .int i)] := hl
  refine lv_aload_n hx hb dL_loose_0 rfl (lv_at hl 0 rfl) ?_
  refine lv_iload_n hx hb dL_loose_1 rfl (lv_at hl 1 rfl) ?_
  refine k_goV hc (As := [.int i]) (rest := []) cw_L_42 rfl dL_loose_2 hK hx7 hM hS rfl hl.1 ⟨Nat.le_of_ble_eq_true rfl, Nat.le_of_ble_eq_true rfl⟩ ⟨Nat.le_of_ble_eq_true rfl, Nat.le_of_ble_eq_true rfl⟩ (Nat.le_of_ble_eq_true rfl) (fun v M1 H locs hres hM hS => ?_) (fun E M1 H locs q9 ce hres hM hS hcell hcv hcl => ?_)
  · rcases hO with ⟨w, M2, h1, h3⟩ | ⟨k, E, M2, h0, h1, h3⟩
    · rw [hres] at h1
      cases h1
      obtain ⟨n, rfl⟩ := hB _ _ hres
      exact k_iret hc hr dL_loose_5 hM hS (Nat.le_of_ble_eq_true rfl) (Nat.le_of_ble_eq_true rfl) h3
    · rw [hres] at h1
      cases h1
  · rcases hO with ⟨w, M2, h1, h3⟩ | ⟨k, E2, M2, h0, h1, h3⟩
    · rw [hres] at h1
      cases h1
    · rw [hres] at h1
      cases h1
      obtain ⟨rfl, rfl⟩ := es1 h0
      refine k_catch hc (E := "java/lang/UnsupportedOperationException") (by decide +kernel) [] ⟨0, 5, 6, 13⟩ [] ht (fun z hz => by cases hz) (by decide) (by decide) ql_L_13 hcell hcv hcl ?_
      refine lv_astore_n (lv' := [(2, .ref q9), (0, .ref x), (1, .int i)]) hx hb dL_loose_6 rfl hl (by decide) rfl (fun ls hl => ?_)
      refine lv_sipush (v := (-1001)) hx hb dL_loose_7 (by decide) ?_
      exact k_iret hc hr dL_loose_10 hM hS (Nat.le_of_ble_eq_true rfl) (Nat.le_of_ble_eq_true rfl) h3
def v_loose (cs : CS) (i : Int32) : Int32 := if ¬ rvC (loO (cs 0) i) = -1 then (rvC (loO (cs 0) i)) else (-1001)
def s_loose (cs : CS) (i : Int32) : CS := if ¬ rvC (loO (cs 0) i) = -1 then (kpS (rsC (bgS cs) (loO (cs 0) i))) else (rsC (bgS cs) (loO (cs 0) i))
theorem h_loose (l : Launch) (hlf : l.stackTraces = false) (g : GC) (M : HM) (x : Nat) (cs : CS) (i : Int32) (hW : ClsAt g M x cs) (hn : nxOk cs) : KH g l yL_loose cL_loose 3 (some .int) [(0, 5, 6, 13)] 8 1 6 [.ref x, .int i] M (.inl (some (.int (v_loose cs i)), putC g M x (s_loose cs i))) :=
  c_L_loose l hlf g M x i hW.o (c_X5_loose l hlf g M x cs i hW hn) (hW_s (fun _ => hW_ok) (fun _ => (hW_x0 rfl))) (fun v M1 h => by (repeat' split at h) <;> first | (cases h; exact ⟨_, rfl⟩) | cases h)
set_option maxHeartbeats 4000000 in
set_option maxRecDepth 100000 in
theorem c_L_drink (l : Launch) (hlf : l.stackTraces = false) (g : GC) (M : HM) (x : Nat) (i : Int32) {fs : List Value} (hx7 : M x = some (.inr (7, fs))) {res res2 : Rs} (hK : KM g l yX5_drink cX5_drink 2 (some .int) 7 1 6 [.ref x, .int i] M res) (hO : hW ["java/lang/UnsupportedOperationException"] res res2) (hB : ∀ (v : Value) (M1 : HM), res = .inl (some v, M1) → ∃ n : Int32, v = .int n) : KH g l yL_drink cL_drink 3 (some .int) [(0, 5, 6, 13)] 8 1 6 [.ref x, .int i] M res2 := by
  refine k_methH hlf (by decide) (Nat.le_of_ble_eq_true rfl) fun p e s m below meth c ls hc hr ht hM hS hl => ?_
  have hc : Cx g p l s m [.ref x, .int i].toArray meth c cL_drink 3 RL := hc
  have hx := hc.1
  have hb := hc.2.1
  have hl : lv_has ls 3 [(0, .ref x), (1, .int i)] := hl
  refine lv_aload_n hx hb dL_drink_0 rfl (lv_at hl 0 rfl) ?_
  refine lv_iload_n hx hb dL_drink_1 rfl (lv_at hl 1 rfl) ?_
  refine k_goV hc (As := [.int i]) (rest := []) cw_L_45 rfl dL_drink_2 hK hx7 hM hS rfl hl.1 ⟨Nat.le_of_ble_eq_true rfl, Nat.le_of_ble_eq_true rfl⟩ ⟨Nat.le_of_ble_eq_true rfl, Nat.le_of_ble_eq_true rfl⟩ (Nat.le_of_ble_eq_true rfl) (fun v M1 H locs hres hM hS => ?_) (fun E M1 H locs q9 ce hres hM hS hcell hcv hcl => ?_)
  · rcases hO with ⟨w, M2, h1, h3⟩ | ⟨k, E, M2, h0, h1, h3⟩
    · rw [hres] at h1
      cases h1
      obtain ⟨n, rfl⟩ := hB _ _ hres
      exact k_iret hc hr dL_drink_5 hM hS (Nat.le_of_ble_eq_true rfl) (Nat.le_of_ble_eq_true rfl) h3
    · rw [hres] at h1
      cases h1
  · rcases hO with ⟨w, M2, h1, h3⟩ | ⟨k, E2, M2, h0, h1, h3⟩
    · rw [hres] at h1
      cases h1
    · rw [hres] at h1
      cases h1
      obtain ⟨rfl, rfl⟩ := es1 h0
      refine k_catch hc (E := "java/lang/UnsupportedOperationException") (by decide +kernel) [] ⟨0, 5, 6, 13⟩ [] ht (fun z hz => by cases hz) (by decide) (by decide) ql_L_13 hcell hcv hcl ?_
      refine lv_astore_n (lv' := [(2, .ref q9), (0, .ref x), (1, .int i)]) hx hb dL_drink_6 rfl hl (by decide) rfl (fun ls hl => ?_)
      refine lv_sipush (v := (-1001)) hx hb dL_drink_7 (by decide) ?_
      exact k_iret hc hr dL_drink_10 hM hS (Nat.le_of_ble_eq_true rfl) (Nat.le_of_ble_eq_true rfl) h3
def v_drink (cs : CS) (i : Int32) : Int32 := if ¬ rvC (wcO (cs 0) i) = -1 then (rvC (wcO (cs 0) i)) else (-1001)
def s_drink (cs : CS) (i : Int32) : CS := if ¬ rvC (wcO (cs 0) i) = -1 then (kpS (rsC (bgS cs) (wcO (cs 0) i))) else (rsC (bgS cs) (wcO (cs 0) i))
theorem h_drink (l : Launch) (hlf : l.stackTraces = false) (g : GC) (M : HM) (x : Nat) (cs : CS) (i : Int32) (hW : ClsAt g M x cs) (hn : nxOk cs) : KH g l yL_drink cL_drink 3 (some .int) [(0, 5, 6, 13)] 8 1 6 [.ref x, .int i] M (.inl (some (.int (v_drink cs i)), putC g M x (s_drink cs i))) :=
  c_L_drink l hlf g M x i hW.o (c_X5_drink l hlf g M x cs i hW hn) (hW_s (fun _ => hW_ok) (fun _ => (hW_x0 rfl))) (fun v M1 h => by (repeat' split at h) <;> first | (cases h; exact ⟨_, rfl⟩) | cases h)
set_option maxHeartbeats 4000000 in
set_option maxRecDepth 100000 in
theorem c_L_water (l : Launch) (hlf : l.stackTraces = false) (g : GC) (M : HM) (x : Nat) (i : Int32) {fs : List Value} (hx7 : M x = some (.inr (7, fs))) {res res2 : Rs} (hK : KM g l yX5_water cX5_water 2 (some .int) 7 1 6 [.ref x, .int i] M res) (hO : hW ["java/lang/UnsupportedOperationException"] res res2) (hB : ∀ (v : Value) (M1 : HM), res = .inl (some v, M1) → ∃ n : Int32, v = .int n) : KH g l yL_water cL_water 3 (some .int) [(0, 5, 6, 13)] 8 1 6 [.ref x, .int i] M res2 := by
  refine k_methH hlf (by decide) (Nat.le_of_ble_eq_true rfl) fun p e s m below meth c ls hc hr ht hM hS hl => ?_
  have hc : Cx g p l s m [.ref x, .int i].toArray meth c cL_water 3 RL := hc
  have hx := hc.1
  have hb := hc.2.1
  have hl : lv_has ls 3 [(0, .ref x), (1, .int i)] := hl
  refine lv_aload_n hx hb dL_water_0 rfl (lv_at hl 0 rfl) ?_
  refine lv_iload_n hx hb dL_water_1 rfl (lv_at hl 1 rfl) ?_
  refine k_goV hc (As := [.int i]) (rest := []) cw_L_48 rfl dL_water_2 hK hx7 hM hS rfl hl.1 ⟨Nat.le_of_ble_eq_true rfl, Nat.le_of_ble_eq_true rfl⟩ ⟨Nat.le_of_ble_eq_true rfl, Nat.le_of_ble_eq_true rfl⟩ (Nat.le_of_ble_eq_true rfl) (fun v M1 H locs hres hM hS => ?_) (fun E M1 H locs q9 ce hres hM hS hcell hcv hcl => ?_)
  · rcases hO with ⟨w, M2, h1, h3⟩ | ⟨k, E, M2, h0, h1, h3⟩
    · rw [hres] at h1
      cases h1
      obtain ⟨n, rfl⟩ := hB _ _ hres
      exact k_iret hc hr dL_water_5 hM hS (Nat.le_of_ble_eq_true rfl) (Nat.le_of_ble_eq_true rfl) h3
    · rw [hres] at h1
      cases h1
  · rcases hO with ⟨w, M2, h1, h3⟩ | ⟨k, E2, M2, h0, h1, h3⟩
    · rw [hres] at h1
      cases h1
    · rw [hres] at h1
      cases h1
      obtain ⟨rfl, rfl⟩ := es1 h0
      refine k_catch hc (E := "java/lang/UnsupportedOperationException") (by decide +kernel) [] ⟨0, 5, 6, 13⟩ [] ht (fun z hz => by cases hz) (by decide) (by decide) ql_L_13 hcell hcv hcl ?_
      refine lv_astore_n (lv' := [(2, .ref q9), (0, .ref x), (1, .int i)]) hx hb dL_water_6 rfl hl (by decide) rfl (fun ls hl => ?_)
      refine lv_sipush (v := (-1001)) hx hb dL_water_7 (by decide) ?_
      exact k_iret hc hr dL_water_10 hM hS (Nat.le_of_ble_eq_true rfl) (Nat.le_of_ble_eq_true rfl) h3
def v_water (cs : CS) (i : Int32) : Int32 := if ¬ rvC (bwO (cs 0) i) = -1 then (rvC (bwO (cs 0) i)) else (-1001)
def s_water (cs : CS) (i : Int32) : CS := if ¬ rvC (bwO (cs 0) i) = -1 then (kpS (rsC (bgS cs) (bwO (cs 0) i))) else (rsC (bgS cs) (bwO (cs 0) i))
theorem h_water (l : Launch) (hlf : l.stackTraces = false) (g : GC) (M : HM) (x : Nat) (cs : CS) (i : Int32) (hW : ClsAt g M x cs) (hn : nxOk cs) : KH g l yL_water cL_water 3 (some .int) [(0, 5, 6, 13)] 8 1 6 [.ref x, .int i] M (.inl (some (.int (v_water cs i)), putC g M x (s_water cs i))) :=
  c_L_water l hlf g M x i hW.o (c_X5_water l hlf g M x cs i hW hn) (hW_s (fun _ => hW_ok) (fun _ => (hW_x0 rfl))) (fun v M1 h => by (repeat' split at h) <;> first | (cases h; exact ⟨_, rfl⟩) | cases h)
set_option maxHeartbeats 4000000 in
set_option maxRecDepth 100000 in
theorem c_L_hours (l : Launch) (hlf : l.stackTraces = false) (g : GC) (M : HM) (x : Nat) (i : Int32) {fs : List Value} (hx7 : M x = some (.inr (7, fs))) {res res2 : Rs} (hK : KM g l yX5_hours cX5_hours 2 (some .int) 9 1 6 [.ref x, .int i] M res) (hO : hW ["java/lang/UnsupportedOperationException"] res res2) (hB : ∀ (v : Value) (M1 : HM), res = .inl (some v, M1) → ∃ n : Int32, v = .int n) : KH g l yL_hours cL_hours 3 (some .int) [(0, 5, 6, 13)] 10 1 6 [.ref x, .int i] M res2 := by
  refine k_methH hlf (by decide) (Nat.le_of_ble_eq_true rfl) fun p e s m below meth c ls hc hr ht hM hS hl => ?_
  have hc : Cx g p l s m [.ref x, .int i].toArray meth c cL_hours 3 RL := hc
  have hx := hc.1
  have hb := hc.2.1
  have hl : lv_has ls 3 [(0, .ref x), (1, .int i)] := hl
  refine lv_aload_n hx hb dL_hours_0 rfl (lv_at hl 0 rfl) ?_
  refine lv_iload_n hx hb dL_hours_1 rfl (lv_at hl 1 rfl) ?_
  refine k_goV hc (As := [.int i]) (rest := []) cw_L_51 rfl dL_hours_2 hK hx7 hM hS rfl hl.1 ⟨Nat.le_of_ble_eq_true rfl, Nat.le_of_ble_eq_true rfl⟩ ⟨Nat.le_of_ble_eq_true rfl, Nat.le_of_ble_eq_true rfl⟩ (Nat.le_of_ble_eq_true rfl) (fun v M1 H locs hres hM hS => ?_) (fun E M1 H locs q9 ce hres hM hS hcell hcv hcl => ?_)
  · rcases hO with ⟨w, M2, h1, h3⟩ | ⟨k, E, M2, h0, h1, h3⟩
    · rw [hres] at h1
      cases h1
      obtain ⟨n, rfl⟩ := hB _ _ hres
      exact k_iret hc hr dL_hours_5 hM hS (Nat.le_of_ble_eq_true rfl) (Nat.le_of_ble_eq_true rfl) h3
    · rw [hres] at h1
      cases h1
  · rcases hO with ⟨w, M2, h1, h3⟩ | ⟨k, E2, M2, h0, h1, h3⟩
    · rw [hres] at h1
      cases h1
    · rw [hres] at h1
      cases h1
      obtain ⟨rfl, rfl⟩ := es1 h0
      refine k_catch hc (E := "java/lang/UnsupportedOperationException") (by decide +kernel) [] ⟨0, 5, 6, 13⟩ [] ht (fun z hz => by cases hz) (by decide) (by decide) ql_L_13 hcell hcv hcl ?_
      refine lv_astore_n (lv' := [(2, .ref q9), (0, .ref x), (1, .int i)]) hx hb dL_hours_6 rfl hl (by decide) rfl (fun ls hl => ?_)
      refine lv_sipush (v := (-1001)) hx hb dL_hours_7 (by decide) ?_
      exact k_iret hc hr dL_hours_10 hM hS (Nat.le_of_ble_eq_true rfl) (Nat.le_of_ble_eq_true rfl) h3
def v_hours (cs : CS) (i : Int32) : Int32 := if ¬ rvC (phO (cs 0) i) = -1 then (rvC (phO (cs 0) i)) else (-1001)
def s_hours (cs : CS) (i : Int32) : CS := if ¬ rvC (phO (cs 0) i) = -1 then (kpS (rsC (bgS cs) (phO (cs 0) i))) else (rsC (bgS cs) (phO (cs 0) i))
theorem h_hours (l : Launch) (hlf : l.stackTraces = false) (g : GC) (M : HM) (x : Nat) (cs : CS) (i : Int32) (hW : ClsAt g M x cs) (hn : nxOk cs) : KH g l yL_hours cL_hours 3 (some .int) [(0, 5, 6, 13)] 10 1 6 [.ref x, .int i] M (.inl (some (.int (v_hours cs i)), putC g M x (s_hours cs i))) :=
  c_L_hours l hlf g M x i hW.o (c_X5_hours l hlf g M x cs i hW hn) (hW_s (fun _ => hW_ok) (fun _ => (hW_x0 rfl))) (fun v M1 h => by (repeat' split at h) <;> first | (cases h; exact ⟨_, rfl⟩) | cases h)
set_option maxHeartbeats 4000000 in
set_option maxRecDepth 100000 in
theorem c_L_camelOf (l : Launch) (hlf : l.stackTraces = false) (g : GC) (M : HM) (x : Nat) (i w : Int32) {fs : List Value} (hx7 : M x = some (.inr (7, fs))) {res res2 : Rs} (hK : KM g l yX5_camelOf cX5_camelOf 3 (some .int) 7 3 18 [.ref x, .int i, .int w] M res) (hO : hW ["java/lang/IndexOutOfBoundsException", "java/lang/IllegalArgumentException"] res res2) (hB : ∀ (v : Value) (M1 : HM), res = .inl (some v, M1) → ∃ n : Int32, v = .int n) : KH g l yL_camelOf cL_camelOf 4 (some .int) [(0, 6, 7, 57), (0, 6, 12, 66)] 8 3 18 [.ref x, .int i, .int w] M res2 := by
  refine k_methH hlf (by decide) (Nat.le_of_ble_eq_true rfl) fun p e s m below meth c ls hc hr ht hM hS hl => ?_
  have hc : Cx g p l s m [.ref x, .int i, .int w].toArray meth c cL_camelOf 4 RL := hc
  have hx := hc.1
  have hb := hc.2.1
  have hl : lv_has ls 4 [(0, .ref x), (1, .int i), (2, .int w)] := hl
  refine lv_aload_n hx hb dL_camelOf_0 rfl (lv_at hl 0 rfl) ?_
  refine lv_iload_n hx hb dL_camelOf_1 rfl (lv_at hl 1 rfl) ?_
  refine lv_iload_n hx hb dL_camelOf_2 rfl (lv_at hl 2 rfl) ?_
  refine k_goV hc (As := [.int i, .int w]) (rest := []) cw_L_63 rfl dL_camelOf_3 hK hx7 hM hS rfl hl.1 ⟨Nat.le_of_ble_eq_true rfl, Nat.le_of_ble_eq_true rfl⟩ ⟨Nat.le_of_ble_eq_true rfl, Nat.le_of_ble_eq_true rfl⟩ (Nat.le_of_ble_eq_true rfl) (fun v M1 H locs hres hM hS => ?_) (fun E M1 H locs q9 ce hres hM hS hcell hcv hcl => ?_)
  · rcases hO with ⟨w, M2, h1, h3⟩ | ⟨k, E, M2, h0, h1, h3⟩
    · rw [hres] at h1
      cases h1
      obtain ⟨n, rfl⟩ := hB _ _ hres
      exact k_iret hc hr dL_camelOf_6 hM hS (Nat.le_of_ble_eq_true rfl) (Nat.le_of_ble_eq_true rfl) h3
    · rw [hres] at h1
      cases h1
  · rcases hO with ⟨w, M2, h1, h3⟩ | ⟨k, E2, M2, h0, h1, h3⟩
    · rw [hres] at h1
      cases h1
    · rw [hres] at h1
      cases h1
      rcases es2 h0 with ⟨rfl, rfl⟩ | ⟨rfl, rfl⟩
      · refine k_catch hc (E := "java/lang/IndexOutOfBoundsException") (by decide +kernel) [] ⟨0, 6, 7, 57⟩ [⟨0, 6, 12, 66⟩] ht (fun z hz => by cases hz) (by decide) (by decide) ql_L_57 hcell hcv hcl ?_
        refine lv_astore_n (lv' := [(3, .ref q9), (0, .ref x), (1, .int i), (2, .int w)]) hx hb dL_camelOf_7 rfl hl (by decide) rfl (fun ls hl => ?_)
        refine lv_sipush (v := (-1001)) hx hb dL_camelOf_8 (by decide) ?_
        exact k_iret hc hr dL_camelOf_11 hM hS (Nat.le_of_ble_eq_true rfl) (Nat.le_of_ble_eq_true rfl) h3
      · refine k_catch hc (E := "java/lang/IllegalArgumentException") (by decide +kernel) [⟨0, 6, 7, 57⟩] ⟨0, 6, 12, 66⟩ [] ht (fun z hz => by rcases List.mem_singleton.mp hz with rfl; exact ⟨by decide, _, ql_L_57, by decide⟩) (by decide) (by decide) ql_L_66 hcell hcv hcl ?_
        refine lv_astore_n (lv' := [(3, .ref q9), (0, .ref x), (1, .int i), (2, .int w)]) hx hb dL_camelOf_12 rfl hl (by decide) rfl (fun ls hl => ?_)
        refine lv_sipush (v := (-1002)) hx hb dL_camelOf_13 (by decide) ?_
        exact k_iret hc hr dL_camelOf_16 hM hS (Nat.le_of_ble_eq_true rfl) (Nat.le_of_ble_eq_true rfl) h3
def v_camelOf (cs : CS) (i : Int32) (w : Int32) : Int32 := if rin 6 (cs 0 8 4) i then if cmOk w then (cmV (cs 0) i w) else (-1002) else (-1001)
theorem h_camelOf (l : Launch) (hlf : l.stackTraces = false) (g : GC) (M : HM) (x : Nat) (cs : CS) (i : Int32) (w : Int32) (hW : ClsAt g M x cs) : KH g l yL_camelOf cL_camelOf 4 (some .int) [(0, 6, 7, 57), (0, 6, 12, 66)] 8 3 18 [.ref x, .int i, .int w] M (.inl (some (.int (v_camelOf cs i w)), M)) :=
  c_L_camelOf l hlf g M x i w hW.o (c_X5_camelOf l hlf g M x cs i w hW) (hW_q (fun _ => (hW_q (fun _ => hW_ok) (fun _ => (hW_x1 rfl)))) (fun _ => (hW_x0 rfl))) (fun v M1 h => by (repeat' split at h) <;> first | (cases h; exact ⟨_, rfl⟩) | cases h)
set_option maxHeartbeats 4000000 in
set_option maxRecDepth 100000 in
theorem c_L_seems (l : Launch) (hlf : l.stackTraces = false) (g : GC) (M : HM) (x : Nat) (i j : Int32) {fs : List Value} (hx7 : M x = some (.inr (7, fs))) {res res2 : Rs} (hK : KM g l yX5_seems cX5_seems 3 (some .int) 8 3 18 [.ref x, .int i, .int j] M res) (hO : hW ["java/lang/IndexOutOfBoundsException"] res res2) (hB : ∀ (v : Value) (M1 : HM), res = .inl (some v, M1) → ∃ n : Int32, v = .int n) : KH g l yL_seems cL_seems 4 (some .int) [(0, 6, 7, 57)] 9 3 18 [.ref x, .int i, .int j] M res2 := by
  refine k_methH hlf (by decide) (Nat.le_of_ble_eq_true rfl) fun p e s m below meth c ls hc hr ht hM hS hl => ?_
  have hc : Cx g p l s m [.ref x, .int i, .int j].toArray meth c cL_seems 4 RL := hc
  have hx := hc.1
  have hb := hc.2.1
  have hl : lv_has ls 4 [(0, .ref x), (1, .int i), (2, .int j)] := hl
  refine lv_aload_n hx hb dL_seems_0 rfl (lv_at hl 0 rfl) ?_
  refine lv_iload_n hx hb dL_seems_1 rfl (lv_at hl 1 rfl) ?_
  refine lv_iload_n hx hb dL_seems_2 rfl (lv_at hl 2 rfl) ?_
  refine k_goV hc (As := [.int i, .int j]) (rest := []) cw_L_76 rfl dL_seems_3 hK hx7 hM hS rfl hl.1 ⟨Nat.le_of_ble_eq_true rfl, Nat.le_of_ble_eq_true rfl⟩ ⟨Nat.le_of_ble_eq_true rfl, Nat.le_of_ble_eq_true rfl⟩ (Nat.le_of_ble_eq_true rfl) (fun v M1 H locs hres hM hS => ?_) (fun E M1 H locs q9 ce hres hM hS hcell hcv hcl => ?_)
  · rcases hO with ⟨w, M2, h1, h3⟩ | ⟨k, E, M2, h0, h1, h3⟩
    · rw [hres] at h1
      cases h1
      obtain ⟨n, rfl⟩ := hB _ _ hres
      exact k_iret hc hr dL_seems_6 hM hS (Nat.le_of_ble_eq_true rfl) (Nat.le_of_ble_eq_true rfl) h3
    · rw [hres] at h1
      cases h1
  · rcases hO with ⟨w, M2, h1, h3⟩ | ⟨k, E2, M2, h0, h1, h3⟩
    · rw [hres] at h1
      cases h1
    · rw [hres] at h1
      cases h1
      obtain ⟨rfl, rfl⟩ := es1 h0
      refine k_catch hc (E := "java/lang/IndexOutOfBoundsException") (by decide +kernel) [] ⟨0, 6, 7, 57⟩ [] ht (fun z hz => by cases hz) (by decide) (by decide) ql_L_57 hcell hcv hcl ?_
      refine lv_astore_n (lv' := [(3, .ref q9), (0, .ref x), (1, .int i), (2, .int j)]) hx hb dL_seems_7 rfl hl (by decide) rfl (fun ls hl => ?_)
      refine lv_sipush (v := (-1001)) hx hb dL_seems_8 (by decide) ?_
      exact k_iret hc hr dL_seems_11 hM hS (Nat.le_of_ble_eq_true rfl) (Nat.le_of_ble_eq_true rfl) h3
def v_seems (cs : CS) (i : Int32) (j : Int32) : Int32 := if rin 10 (cs 0 8 0) i then if rin 4 (cs 0 8 1) j then (seemF (cs 0) i j) else (-1001) else (-1001)
theorem h_seems (l : Launch) (hlf : l.stackTraces = false) (g : GC) (M : HM) (x : Nat) (cs : CS) (i : Int32) (j : Int32) (hW : ClsAt g M x cs) : KH g l yL_seems cL_seems 4 (some .int) [(0, 6, 7, 57)] 9 3 18 [.ref x, .int i, .int j] M (.inl (some (.int (v_seems cs i j)), M)) :=
  c_L_seems l hlf g M x i j hW.o (c_X5_seems l hlf g M x cs i j hW) (hW_q (fun _ => (hW_q (fun _ => hW_ok) (fun _ => (hW_x0 rfl)))) (fun _ => (hW_x0 rfl))) (fun v M1 h => by (repeat' split at h) <;> first | (cases h; exact ⟨_, rfl⟩) | cases h)
set_option maxHeartbeats 4000000 in
set_option maxRecDepth 100000 in
theorem c_L_shimmers (l : Launch) (hlf : l.stackTraces = false) (g : GC) (M : HM) (x : Nat) (i j : Int32) {fs : List Value} (hx7 : M x = some (.inr (7, fs))) {res res2 : Rs} (hK : KM g l yX5_shimmers cX5_shimmers 3 (some .boolean) 7 3 18 [.ref x, .int i, .int j] M res) (hO : hW ["java/lang/IndexOutOfBoundsException"] res res2) (hB : ∀ (v : Value) (M1 : HM), res = .inl (some v, M1) → v = .int 0 ∨ v = .int 1) : KH g l yL_shimmers cL_shimmers 4 (some .int) [(0, 14, 15, 57)] 8 3 18 [.ref x, .int i, .int j] M res2 := by
  refine k_methH hlf (by decide) (Nat.le_of_ble_eq_true rfl) fun p e s m below meth c ls hc hr ht hM hS hl => ?_
  have hc : Cx g p l s m [.ref x, .int i, .int j].toArray meth c cL_shimmers 4 RL := hc
  have hx := hc.1
  have hb := hc.2.1
  have hl : lv_has ls 4 [(0, .ref x), (1, .int i), (2, .int j)] := hl
  refine lv_aload_n hx hb dL_shimmers_0 rfl (lv_at hl 0 rfl) ?_
  refine lv_iload_n hx hb dL_shimmers_1 rfl (lv_at hl 1 rfl) ?_
  refine lv_iload_n hx hb dL_shimmers_2 rfl (lv_at hl 2 rfl) ?_
  refine k_goV hc (As := [.int i, .int j]) (rest := []) cw_L_82 rfl dL_shimmers_3 hK hx7 hM hS rfl hl.1 ⟨Nat.le_of_ble_eq_true rfl, Nat.le_of_ble_eq_true rfl⟩ ⟨Nat.le_of_ble_eq_true rfl, Nat.le_of_ble_eq_true rfl⟩ (Nat.le_of_ble_eq_true rfl) (fun v M1 H locs hres hM hS => ?_) (fun E M1 H locs q9 ce hres hM hS hcell hcv hcl => ?_)
  · rcases hO with ⟨w, M2, h1, h3⟩ | ⟨k, E, M2, h0, h1, h3⟩
    · rw [hres] at h1
      cases h1
      rcases hB _ _ hres with rfl | rfl
      · refine lv_if_eq (tgt := 13) hx hb dL_shimmers_6 (by decide) (fun c_1 => ?_) (fun c_1 => absurd rfl c_1)
        refine lv_iconst (v := 0) hx hb dL_shimmers_13 (by decide) ?_
        exact k_iret hc hr dL_shimmers_14 hM hS (Nat.le_of_ble_eq_true rfl) (Nat.le_of_ble_eq_true rfl) h3
      · refine lv_if_eq (tgt := 13) hx hb dL_shimmers_6 (by decide) (fun c_1 => absurd c_1 (by decide)) (fun c_1 => ?_)
        refine lv_iconst (v := 1) hx hb dL_shimmers_9 (by decide) ?_
        refine lv_goto (tgt := 14) hx hb dL_shimmers_10 (by decide) ?_
        exact k_iret hc hr dL_shimmers_14 hM hS (Nat.le_of_ble_eq_true rfl) (Nat.le_of_ble_eq_true rfl) h3
    · rw [hres] at h1
      cases h1
  · rcases hO with ⟨w, M2, h1, h3⟩ | ⟨k, E2, M2, h0, h1, h3⟩
    · rw [hres] at h1
      cases h1
    · rw [hres] at h1
      cases h1
      obtain ⟨rfl, rfl⟩ := es1 h0
      refine k_catch hc (E := "java/lang/IndexOutOfBoundsException") (by decide +kernel) [] ⟨0, 14, 15, 57⟩ [] ht (fun z hz => by cases hz) (by decide) (by decide) ql_L_57 hcell hcv hcl ?_
      refine lv_astore_n (lv' := [(3, .ref q9), (0, .ref x), (1, .int i), (2, .int j)]) hx hb dL_shimmers_15 rfl hl (by decide) rfl (fun ls hl => ?_)
      refine lv_sipush (v := (-1001)) hx hb dL_shimmers_16 (by decide) ?_
      exact k_iret hc hr dL_shimmers_19 hM hS (Nat.le_of_ble_eq_true rfl) (Nat.le_of_ble_eq_true rfl) h3
def v_shimmers (cs : CS) (i : Int32) (j : Int32) : Int32 := if rin 10 (cs 0 8 0) i then if rin 4 (cs 0 8 1) j then (bI (shimF (cs 0) i j (hNow (cs 0)))) else (-1001) else (-1001)
theorem h_shimmers (l : Launch) (hlf : l.stackTraces = false) (g : GC) (M : HM) (x : Nat) (cs : CS) (i : Int32) (j : Int32) (hW : ClsAt g M x cs) : KH g l yL_shimmers cL_shimmers 4 (some .int) [(0, 14, 15, 57)] 8 3 18 [.ref x, .int i, .int j] M (.inl (some (.int (v_shimmers cs i j)), M)) :=
  c_L_shimmers l hlf g M x i j hW.o (c_X5_shimmers l hlf g M x cs i j hW) (hW_q (fun _ => (hW_q (fun _ => hW_ok) (fun _ => (hW_x0 rfl)))) (fun _ => (hW_x0 rfl))) (fun v M1 h => by (repeat' split at h) <;> first | (cases h; exact bI_01.imp (congrArg Value.int) (congrArg Value.int)) | cases h)
set_option maxHeartbeats 4000000 in
set_option maxRecDepth 100000 in
theorem c_L_bestPost (l : Launch) (hlf : l.stackTraces = false) (g : GC) (M : HM) (x : Nat) (i : Int32) {fs : List Value} (hx7 : M x = some (.inr (7, fs))) {res res2 : Rs} (hK : KM g l yX5_bestPost cX5_bestPost 3 (some .int) 10 3 18 [.ref x, .int i] M res) (hO : hW ["java/lang/IndexOutOfBoundsException", "java/util/NoSuchElementException"] res res2) (hB : ∀ (v : Value) (M1 : HM), res = .inl (some v, M1) → ∃ n : Int32, v = .int n) : KH g l yL_bestPost cL_bestPost 3 (some .int) [(0, 5, 6, 57), (0, 5, 11, 71)] 11 3 18 [.ref x, .int i] M res2 := by
  refine k_methH hlf (by decide) (Nat.le_of_ble_eq_true rfl) fun p e s m below meth c ls hc hr ht hM hS hl => ?_
  have hc : Cx g p l s m [.ref x, .int i].toArray meth c cL_bestPost 3 RL := hc
  have hx := hc.1
  have hb := hc.2.1
  have hl : lv_has ls 3 [(0, .ref x), (1, .int i)] := hl
  refine lv_aload_n hx hb dL_bestPost_0 rfl (lv_at hl 0 rfl) ?_
  refine lv_iload_n hx hb dL_bestPost_1 rfl (lv_at hl 1 rfl) ?_
  refine k_goV hc (As := [.int i]) (rest := []) cw_L_86 rfl dL_bestPost_2 hK hx7 hM hS rfl hl.1 ⟨Nat.le_of_ble_eq_true rfl, Nat.le_of_ble_eq_true rfl⟩ ⟨Nat.le_of_ble_eq_true rfl, Nat.le_of_ble_eq_true rfl⟩ (Nat.le_of_ble_eq_true rfl) (fun v M1 H locs hres hM hS => ?_) (fun E M1 H locs q9 ce hres hM hS hcell hcv hcl => ?_)
  · rcases hO with ⟨w, M2, h1, h3⟩ | ⟨k, E, M2, h0, h1, h3⟩
    · rw [hres] at h1
      cases h1
      obtain ⟨n, rfl⟩ := hB _ _ hres
      exact k_iret hc hr dL_bestPost_5 hM hS (Nat.le_of_ble_eq_true rfl) (Nat.le_of_ble_eq_true rfl) h3
    · rw [hres] at h1
      cases h1
  · rcases hO with ⟨w, M2, h1, h3⟩ | ⟨k, E2, M2, h0, h1, h3⟩
    · rw [hres] at h1
      cases h1
    · rw [hres] at h1
      cases h1
      rcases es2 h0 with ⟨rfl, rfl⟩ | ⟨rfl, rfl⟩
      · refine k_catch hc (E := "java/lang/IndexOutOfBoundsException") (by decide +kernel) [] ⟨0, 5, 6, 57⟩ [⟨0, 5, 11, 71⟩] ht (fun z hz => by cases hz) (by decide) (by decide) ql_L_57 hcell hcv hcl ?_
        refine lv_astore_n (lv' := [(2, .ref q9), (0, .ref x), (1, .int i)]) hx hb dL_bestPost_6 rfl hl (by decide) rfl (fun ls hl => ?_)
        refine lv_sipush (v := (-1001)) hx hb dL_bestPost_7 (by decide) ?_
        exact k_iret hc hr dL_bestPost_10 hM hS (Nat.le_of_ble_eq_true rfl) (Nat.le_of_ble_eq_true rfl) h3
      · refine k_catch hc (E := "java/util/NoSuchElementException") (by decide +kernel) [⟨0, 5, 6, 57⟩] ⟨0, 5, 11, 71⟩ [] ht (fun z hz => by rcases List.mem_singleton.mp hz with rfl; exact ⟨by decide, _, ql_L_57, by decide⟩) (by decide) (by decide) ql_L_71 hcell hcv hcl ?_
        refine lv_astore_n (lv' := [(2, .ref q9), (0, .ref x), (1, .int i)]) hx hb dL_bestPost_11 rfl hl (by decide) rfl (fun ls hl => ?_)
        refine lv_sipush (v := (-1002)) hx hb dL_bestPost_12 (by decide) ?_
        exact k_iret hc hr dL_bestPost_15 hM hS (Nat.le_of_ble_eq_true rfl) (Nat.le_of_ble_eq_true rfl) h3
def v_bestPost (cs : CS) (i : Int32) : Int32 := if rin 10 (cs 0 8 0) i then if ¬ bestF (cs 0) i = -1 then (bestF (cs 0) i) else (-1002) else (-1001)
theorem h_bestPost (l : Launch) (hlf : l.stackTraces = false) (g : GC) (M : HM) (x : Nat) (cs : CS) (i : Int32) (hW : ClsAt g M x cs) : KH g l yL_bestPost cL_bestPost 3 (some .int) [(0, 5, 6, 57), (0, 5, 11, 71)] 11 3 18 [.ref x, .int i] M (.inl (some (.int (v_bestPost cs i)), M)) :=
  c_L_bestPost l hlf g M x i hW.o (c_X5_bestPost l hlf g M x cs i hW) (hW_q (fun _ => (hW_q (fun _ => hW_ok) (fun _ => (hW_x1 rfl)))) (fun _ => (hW_x0 rfl))) (fun v M1 h => by (repeat' split at h) <;> first | (cases h; exact ⟨_, rfl⟩) | cases h)
set_option maxHeartbeats 4000000 in
set_option maxRecDepth 100000 in
theorem c_L_lostIn (l : Launch) (hlf : l.stackTraces = false) (g : GC) (M : HM) (x : Nat) (i : Int32) {fs : List Value} (hx7 : M x = some (.inr (7, fs))) {res res2 : Rs} (hK : KM g l yX5_lostIn cX5_lostIn 3 (some .int) 7 3 18 [.ref x, .int i] M res) (hO : hW ["java/lang/IndexOutOfBoundsException", "java/util/NoSuchElementException"] res res2) (hB : ∀ (v : Value) (M1 : HM), res = .inl (some v, M1) → ∃ n : Int32, v = .int n) : KH g l yL_lostIn cL_lostIn 3 (some .int) [(0, 5, 6, 57), (0, 5, 11, 71)] 8 3 18 [.ref x, .int i] M res2 := by
  refine k_methH hlf (by decide) (Nat.le_of_ble_eq_true rfl) fun p e s m below meth c ls hc hr ht hM hS hl => ?_
  have hc : Cx g p l s m [.ref x, .int i].toArray meth c cL_lostIn 3 RL := hc
  have hx := hc.1
  have hb := hc.2.1
  have hl : lv_has ls 3 [(0, .ref x), (1, .int i)] := hl
  refine lv_aload_n hx hb dL_lostIn_0 rfl (lv_at hl 0 rfl) ?_
  refine lv_iload_n hx hb dL_lostIn_1 rfl (lv_at hl 1 rfl) ?_
  refine k_goV hc (As := [.int i]) (rest := []) cw_L_95 rfl dL_lostIn_2 hK hx7 hM hS rfl hl.1 ⟨Nat.le_of_ble_eq_true rfl, Nat.le_of_ble_eq_true rfl⟩ ⟨Nat.le_of_ble_eq_true rfl, Nat.le_of_ble_eq_true rfl⟩ (Nat.le_of_ble_eq_true rfl) (fun v M1 H locs hres hM hS => ?_) (fun E M1 H locs q9 ce hres hM hS hcell hcv hcl => ?_)
  · rcases hO with ⟨w, M2, h1, h3⟩ | ⟨k, E, M2, h0, h1, h3⟩
    · rw [hres] at h1
      cases h1
      obtain ⟨n, rfl⟩ := hB _ _ hres
      exact k_iret hc hr dL_lostIn_5 hM hS (Nat.le_of_ble_eq_true rfl) (Nat.le_of_ble_eq_true rfl) h3
    · rw [hres] at h1
      cases h1
  · rcases hO with ⟨w, M2, h1, h3⟩ | ⟨k, E2, M2, h0, h1, h3⟩
    · rw [hres] at h1
      cases h1
    · rw [hres] at h1
      cases h1
      rcases es2 h0 with ⟨rfl, rfl⟩ | ⟨rfl, rfl⟩
      · refine k_catch hc (E := "java/lang/IndexOutOfBoundsException") (by decide +kernel) [] ⟨0, 5, 6, 57⟩ [⟨0, 5, 11, 71⟩] ht (fun z hz => by cases hz) (by decide) (by decide) ql_L_57 hcell hcv hcl ?_
        refine lv_astore_n (lv' := [(2, .ref q9), (0, .ref x), (1, .int i)]) hx hb dL_lostIn_6 rfl hl (by decide) rfl (fun ls hl => ?_)
        refine lv_sipush (v := (-1001)) hx hb dL_lostIn_7 (by decide) ?_
        exact k_iret hc hr dL_lostIn_10 hM hS (Nat.le_of_ble_eq_true rfl) (Nat.le_of_ble_eq_true rfl) h3
      · refine k_catch hc (E := "java/util/NoSuchElementException") (by decide +kernel) [⟨0, 5, 6, 57⟩] ⟨0, 5, 11, 71⟩ [] ht (fun z hz => by rcases List.mem_singleton.mp hz with rfl; exact ⟨by decide, _, ql_L_57, by decide⟩) (by decide) (by decide) ql_L_71 hcell hcv hcl ?_
        refine lv_astore_n (lv' := [(2, .ref q9), (0, .ref x), (1, .int i)]) hx hb dL_lostIn_11 rfl hl (by decide) rfl (fun ls hl => ?_)
        refine lv_sipush (v := (-1002)) hx hb dL_lostIn_12 (by decide) ?_
        exact k_iret hc hr dL_lostIn_15 hM hS (Nat.le_of_ble_eq_true rfl) (Nat.le_of_ble_eq_true rfl) h3
def v_lostIn (cs : CS) (i : Int32) : Int32 := if rin 6 (cs 0 8 4) i then if ¬ lostF (cs 0) i = -1 then (lostF (cs 0) i) else (-1002) else (-1001)
theorem h_lostIn (l : Launch) (hlf : l.stackTraces = false) (g : GC) (M : HM) (x : Nat) (cs : CS) (i : Int32) (hW : ClsAt g M x cs) : KH g l yL_lostIn cL_lostIn 3 (some .int) [(0, 5, 6, 57), (0, 5, 11, 71)] 8 3 18 [.ref x, .int i] M (.inl (some (.int (v_lostIn cs i)), M)) :=
  c_L_lostIn l hlf g M x i hW.o (c_X5_lostIn l hlf g M x cs i hW) (hW_q (fun _ => (hW_q (fun _ => hW_ok) (fun _ => (hW_x1 rfl)))) (fun _ => (hW_x0 rfl))) (fun v M1 h => by (repeat' split at h) <;> first | (cases h; exact ⟨_, rfl⟩) | cases h)
set_option maxHeartbeats 4000000 in
set_option maxRecDepth 100000 in
theorem c_L_nearest (l : Launch) (hlf : l.stackTraces = false) (g : GC) (M : HM) (x : Nat) (i : Int32) {fs : List Value} (hx7 : M x = some (.inr (7, fs))) {res res2 : Rs} (hK : KM g l yX5_nearest cX5_nearest 3 (some .int) 7 3 18 [.ref x, .int i] M res) (hO : hW ["java/lang/IllegalArgumentException", "java/util/NoSuchElementException"] res res2) (hB : ∀ (v : Value) (M1 : HM), res = .inl (some v, M1) → ∃ n : Int32, v = .int n) : KH g l yL_nearest cL_nearest 3 (some .int) [(0, 5, 6, 66), (0, 5, 11, 71)] 8 3 18 [.ref x, .int i] M res2 := by
  refine k_methH hlf (by decide) (Nat.le_of_ble_eq_true rfl) fun p e s m below meth c ls hc hr ht hM hS hl => ?_
  have hc : Cx g p l s m [.ref x, .int i].toArray meth c cL_nearest 3 RL := hc
  have hx := hc.1
  have hb := hc.2.1
  have hl : lv_has ls 3 [(0, .ref x), (1, .int i)] := hl
  refine lv_aload_n hx hb dL_nearest_0 rfl (lv_at hl 0 rfl) ?_
  refine lv_iload_n hx hb dL_nearest_1 rfl (lv_at hl 1 rfl) ?_
  refine k_goV hc (As := [.int i]) (rest := []) cw_L_98 rfl dL_nearest_2 hK hx7 hM hS rfl hl.1 ⟨Nat.le_of_ble_eq_true rfl, Nat.le_of_ble_eq_true rfl⟩ ⟨Nat.le_of_ble_eq_true rfl, Nat.le_of_ble_eq_true rfl⟩ (Nat.le_of_ble_eq_true rfl) (fun v M1 H locs hres hM hS => ?_) (fun E M1 H locs q9 ce hres hM hS hcell hcv hcl => ?_)
  · rcases hO with ⟨w, M2, h1, h3⟩ | ⟨k, E, M2, h0, h1, h3⟩
    · rw [hres] at h1
      cases h1
      obtain ⟨n, rfl⟩ := hB _ _ hres
      exact k_iret hc hr dL_nearest_5 hM hS (Nat.le_of_ble_eq_true rfl) (Nat.le_of_ble_eq_true rfl) h3
    · rw [hres] at h1
      cases h1
  · rcases hO with ⟨w, M2, h1, h3⟩ | ⟨k, E2, M2, h0, h1, h3⟩
    · rw [hres] at h1
      cases h1
    · rw [hres] at h1
      cases h1
      rcases es2 h0 with ⟨rfl, rfl⟩ | ⟨rfl, rfl⟩
      · refine k_catch hc (E := "java/lang/IllegalArgumentException") (by decide +kernel) [] ⟨0, 5, 6, 66⟩ [⟨0, 5, 11, 71⟩] ht (fun z hz => by cases hz) (by decide) (by decide) ql_L_66 hcell hcv hcl ?_
        refine lv_astore_n (lv' := [(2, .ref q9), (0, .ref x), (1, .int i)]) hx hb dL_nearest_6 rfl hl (by decide) rfl (fun ls hl => ?_)
        refine lv_sipush (v := (-1001)) hx hb dL_nearest_7 (by decide) ?_
        exact k_iret hc hr dL_nearest_10 hM hS (Nat.le_of_ble_eq_true rfl) (Nat.le_of_ble_eq_true rfl) h3
      · refine k_catch hc (E := "java/util/NoSuchElementException") (by decide +kernel) [⟨0, 5, 6, 66⟩] ⟨0, 5, 11, 71⟩ [] ht (fun z hz => by rcases List.mem_singleton.mp hz with rfl; exact ⟨by decide, _, ql_L_66, by decide⟩) (by decide) (by decide) ql_L_71 hcell hcv hcl ?_
        refine lv_astore_n (lv' := [(2, .ref q9), (0, .ref x), (1, .int i)]) hx hb dL_nearest_11 rfl hl (by decide) rfl (fun ls hl => ?_)
        refine lv_sipush (v := (-1002)) hx hb dL_nearest_12 (by decide) ?_
        exact k_iret hc hr dL_nearest_15 hM hS (Nat.le_of_ble_eq_true rfl) (Nat.le_of_ble_eq_true rfl) h3
def v_nearest (cs : CS) (i : Int32) : Int32 := if isPl i then if ¬ ncF (cs 0) i = -1 then (ncF (cs 0) i) else (-1002) else (-1001)
theorem h_nearest (l : Launch) (hlf : l.stackTraces = false) (g : GC) (M : HM) (x : Nat) (cs : CS) (i : Int32) (hW : ClsAt g M x cs) : KH g l yL_nearest cL_nearest 3 (some .int) [(0, 5, 6, 66), (0, 5, 11, 71)] 8 3 18 [.ref x, .int i] M (.inl (some (.int (v_nearest cs i)), M)) :=
  c_L_nearest l hlf g M x i hW.o (c_X5_nearest l hlf g M x cs i hW) (hW_q (fun _ => (hW_q (fun _ => hW_ok) (fun _ => (hW_x1 rfl)))) (fun _ => (hW_x0 rfl))) (fun v M1 h => by (repeat' split at h) <;> first | (cases h; exact ⟨_, rfl⟩) | cases h)
set_option maxHeartbeats 4000000 in
set_option maxRecDepth 100000 in
theorem c_L_append (l : Launch) (hlf : l.stackTraces = false) (g : GC) (M : HM) (x : Nat) (v : Int32) {fs : List Value} (hx7 : M x = some (.inr (7, fs))) {res res2 : Rs} (hK : KM g l yX5_append cX5_append 2 (some .int) 6 3 18 [.ref x, .int v] M res) (hO : hW ["java/lang/IllegalStateException"] res res2) (hB : ∀ (v : Value) (M1 : HM), res = .inl (some v, M1) → ∃ n : Int32, v = .int n) : KH g l yL_append cL_append 3 (some .int) [(0, 5, 6, 105)] 7 3 18 [.ref x, .int v] M res2 := by
  refine k_methH hlf (by decide) (Nat.le_of_ble_eq_true rfl) fun p e s m below meth c ls hc hr ht hM hS hl => ?_
  have hc : Cx g p l s m [.ref x, .int v].toArray meth c cL_append 3 RL := hc
  have hx := hc.1
  have hb := hc.2.1
  have hl : lv_has ls 3 [(0, .ref x), (1, .int v)] := hl
  refine lv_aload_n hx hb dL_append_0 rfl (lv_at hl 0 rfl) ?_
  refine lv_iload_n hx hb dL_append_1 rfl (lv_at hl 1 rfl) ?_
  refine k_goV hc (As := [.int v]) (rest := []) cw_L_101 rfl dL_append_2 hK hx7 hM hS rfl hl.1 ⟨Nat.le_of_ble_eq_true rfl, Nat.le_of_ble_eq_true rfl⟩ ⟨Nat.le_of_ble_eq_true rfl, Nat.le_of_ble_eq_true rfl⟩ (Nat.le_of_ble_eq_true rfl) (fun v M1 H locs hres hM hS => ?_) (fun E M1 H locs q9 ce hres hM hS hcell hcv hcl => ?_)
  · rcases hO with ⟨w, M2, h1, h3⟩ | ⟨k, E, M2, h0, h1, h3⟩
    · rw [hres] at h1
      cases h1
      obtain ⟨n, rfl⟩ := hB _ _ hres
      exact k_iret hc hr dL_append_5 hM hS (Nat.le_of_ble_eq_true rfl) (Nat.le_of_ble_eq_true rfl) h3
    · rw [hres] at h1
      cases h1
  · rcases hO with ⟨w, M2, h1, h3⟩ | ⟨k, E2, M2, h0, h1, h3⟩
    · rw [hres] at h1
      cases h1
    · rw [hres] at h1
      cases h1
      obtain ⟨rfl, rfl⟩ := es1 h0
      refine k_catch hc (E := "java/lang/IllegalStateException") (by decide +kernel) [] ⟨0, 5, 6, 105⟩ [] ht (fun z hz => by cases hz) (by decide) (by decide) ql_L_105 hcell hcv hcl ?_
      refine lv_astore_n (lv' := [(2, .ref q9), (0, .ref x), (1, .int v)]) hx hb dL_append_6 rfl hl (by decide) rfl (fun ls hl => ?_)
      refine lv_sipush (v := (-1001)) hx hb dL_append_7 (by decide) ?_
      exact k_iret hc hr dL_append_10 hM hS (Nat.le_of_ble_eq_true rfl) (Nat.le_of_ble_eq_true rfl) h3
def v_append (cs : CS) (v : Int32) : Int32 := if cs 11 3 1 < nI 60 then (tpS cs v 11 3 1) else (-1001)
def s_append (cs : CS) (v : Int32) : CS := if cs 11 3 1 < nI 60 then (tpS cs v) else cs
theorem h_append (l : Launch) (hlf : l.stackTraces = false) (g : GC) (M : HM) (x : Nat) (cs : CS) (v : Int32) (hW : ClsAt g M x cs) (hv : chOk v) : KH g l yL_append cL_append 3 (some .int) [(0, 5, 6, 105)] 7 3 18 [.ref x, .int v] M (.inl (some (.int (v_append cs v)), putC g M x (s_append cs v))) :=
  c_L_append l hlf g M x v hW.o (c_X5_append l hlf g M x cs v hW hv) (hW_s (fun _ => hW_ok) (fun _ => (by rw [putC_same hW]; exact (hW_x0 rfl)))) (fun v M1 h => by (repeat' split at h) <;> first | (cases h; exact ⟨_, rfl⟩) | cases h)
set_option maxHeartbeats 4000000 in
set_option maxRecDepth 100000 in
theorem c_L_commands (l : Launch) (hlf : l.stackTraces = false) (g : GC) (M : HM) (x : Nat) {fs : List Value} (hx7 : M x = some (.inr (7, fs))) {res res2 : Rs} (hK : KM g l yX5_commands cX5_commands 4 (some .int) 10 3 18 [.ref x] M res) (hO : hW ["java/lang/IllegalArgumentException", "java/lang/UnsupportedOperationException"] res res2) (hB : ∀ (v : Value) (M1 : HM), res = .inl (some v, M1) → ∃ n : Int32, v = .int n) : KH g l yL_commands cL_commands 2 (some .int) [(0, 4, 5, 66), (0, 4, 10, 13)] 11 3 18 [.ref x] M res2 := by
  refine k_methH hlf (by decide) (Nat.le_of_ble_eq_true rfl) fun p e s m below meth c ls hc hr ht hM hS hl => ?_
  have hc : Cx g p l s m [.ref x].toArray meth c cL_commands 2 RL := hc
  have hx := hc.1
  have hb := hc.2.1
  have hl : lv_has ls 2 [(0, .ref x)] := hl
  refine lv_aload_n hx hb dL_commands_0 rfl (lv_at hl 0 rfl) ?_
  refine k_goV hc (As := []) (rest := []) cw_L_107 rfl dL_commands_1 hK hx7 hM hS rfl hl.1 ⟨Nat.le_of_ble_eq_true rfl, Nat.le_of_ble_eq_true rfl⟩ ⟨Nat.le_of_ble_eq_true rfl, Nat.le_of_ble_eq_true rfl⟩ (Nat.le_of_ble_eq_true rfl) (fun v M1 H locs hres hM hS => ?_) (fun E M1 H locs q9 ce hres hM hS hcell hcv hcl => ?_)
  · rcases hO with ⟨w, M2, h1, h3⟩ | ⟨k, E, M2, h0, h1, h3⟩
    · rw [hres] at h1
      cases h1
      obtain ⟨n, rfl⟩ := hB _ _ hres
      exact k_iret hc hr dL_commands_4 hM hS (Nat.le_of_ble_eq_true rfl) (Nat.le_of_ble_eq_true rfl) h3
    · rw [hres] at h1
      cases h1
  · rcases hO with ⟨w, M2, h1, h3⟩ | ⟨k, E2, M2, h0, h1, h3⟩
    · rw [hres] at h1
      cases h1
    · rw [hres] at h1
      cases h1
      rcases es2 h0 with ⟨rfl, rfl⟩ | ⟨rfl, rfl⟩
      · refine k_catch hc (E := "java/lang/IllegalArgumentException") (by decide +kernel) [] ⟨0, 4, 5, 66⟩ [⟨0, 4, 10, 13⟩] ht (fun z hz => by cases hz) (by decide) (by decide) ql_L_66 hcell hcv hcl ?_
        refine lv_astore_n (lv' := [(1, .ref q9), (0, .ref x)]) hx hb dL_commands_5 rfl hl (by decide) rfl (fun ls hl => ?_)
        refine lv_sipush (v := (-1001)) hx hb dL_commands_6 (by decide) ?_
        exact k_iret hc hr dL_commands_9 hM hS (Nat.le_of_ble_eq_true rfl) (Nat.le_of_ble_eq_true rfl) h3
      · refine k_catch hc (E := "java/lang/UnsupportedOperationException") (by decide +kernel) [⟨0, 4, 5, 66⟩] ⟨0, 4, 10, 13⟩ [] ht (fun z hz => by rcases List.mem_singleton.mp hz with rfl; exact ⟨by decide, _, ql_L_66, by decide⟩) (by decide) (by decide) ql_L_13 hcell hcv hcl ?_
        refine lv_astore_n (lv' := [(1, .ref q9), (0, .ref x)]) hx hb dL_commands_10 rfl hl (by decide) rfl (fun ls hl => ?_)
        refine lv_sipush (v := (-1002)) hx hb dL_commands_11 (by decide) ?_
        exact k_iret hc hr dL_commands_14 hM hS (Nat.le_of_ble_eq_true rfl) (Nat.le_of_ble_eq_true rfl) h3
def v_commands (cs : CS) : Int32 := if ¬ ccV cs = -1 then if (cmE cs).1 = true then (ccV cs) else (-1002) else (-1001)
def s_commands (cs : CS) : CS := if ¬ ccV cs = -1 then if (cmE cs).1 = true then (kpS (upS (cmE cs).2 1 0)) else (upS (upC (cmE cs).2 0 ((cmE cs).2 1)) 1 0) else (upS (upS (ccS cs) 8 (ccS cs 11 3 2)) 1 0)
theorem h_commands (l : Launch) (hlf : l.stackTraces = false) (g : GC) (M : HM) (x : Nat) (cs : CS) (hW : ClsAt g M x cs) (hn : nxOk cs) (ht : sgOk cs) : KH g l yL_commands cL_commands 2 (some .int) [(0, 4, 5, 66), (0, 4, 10, 13)] 11 3 18 [.ref x] M (.inl (some (.int (v_commands cs)), putC g M x (s_commands cs))) :=
  c_L_commands l hlf g M x hW.o (c_X5_commands l hlf g M x cs hW hn ht) (hW_s (fun _ => (hW_s (fun _ => hW_ok) (fun _ => (hW_x1 rfl)))) (fun _ => (hW_x0 rfl))) (fun v M1 h => by (repeat' split at h) <;> first | (cases h; exact ⟨_, rfl⟩) | cases h)
set_option maxHeartbeats 4000000 in
set_option maxRecDepth 100000 in
theorem c_L_reason (l : Launch) (hlf : l.stackTraces = false) (g : GC) (M : HM) (x : Nat) (w : Int32) {fs : List Value} (hx7 : M x = some (.inr (7, fs))) {res res2 : Rs} (hK : KM g l yX5_reason cX5_reason 2 (some .int) 6 3 18 [.ref x, .int w] M res) (hO : hW ["java/lang/IllegalArgumentException", "java/util/NoSuchElementException"] res res2) (hB : ∀ (v : Value) (M1 : HM), res = .inl (some v, M1) → ∃ n : Int32, v = .int n) : KH g l yL_reason cL_reason 3 (some .int) [(0, 5, 6, 66), (0, 5, 11, 71)] 7 3 18 [.ref x, .int w] M res2 := by
  refine k_methH hlf (by decide) (Nat.le_of_ble_eq_true rfl) fun p e s m below meth c ls hc hr ht hM hS hl => ?_
  have hc : Cx g p l s m [.ref x, .int w].toArray meth c cL_reason 3 RL := hc
  have hx := hc.1
  have hb := hc.2.1
  have hl : lv_has ls 3 [(0, .ref x), (1, .int w)] := hl
  refine lv_aload_n hx hb dL_reason_0 rfl (lv_at hl 0 rfl) ?_
  refine lv_iload_n hx hb dL_reason_1 rfl (lv_at hl 1 rfl) ?_
  refine k_goV hc (As := [.int w]) (rest := []) cw_L_110 rfl dL_reason_2 hK hx7 hM hS rfl hl.1 ⟨Nat.le_of_ble_eq_true rfl, Nat.le_of_ble_eq_true rfl⟩ ⟨Nat.le_of_ble_eq_true rfl, Nat.le_of_ble_eq_true rfl⟩ (Nat.le_of_ble_eq_true rfl) (fun v M1 H locs hres hM hS => ?_) (fun E M1 H locs q9 ce hres hM hS hcell hcv hcl => ?_)
  · rcases hO with ⟨w, M2, h1, h3⟩ | ⟨k, E, M2, h0, h1, h3⟩
    · rw [hres] at h1
      cases h1
      obtain ⟨n, rfl⟩ := hB _ _ hres
      exact k_iret hc hr dL_reason_5 hM hS (Nat.le_of_ble_eq_true rfl) (Nat.le_of_ble_eq_true rfl) h3
    · rw [hres] at h1
      cases h1
  · rcases hO with ⟨w, M2, h1, h3⟩ | ⟨k, E2, M2, h0, h1, h3⟩
    · rw [hres] at h1
      cases h1
    · rw [hres] at h1
      cases h1
      rcases es2 h0 with ⟨rfl, rfl⟩ | ⟨rfl, rfl⟩
      · refine k_catch hc (E := "java/lang/IllegalArgumentException") (by decide +kernel) [] ⟨0, 5, 6, 66⟩ [⟨0, 5, 11, 71⟩] ht (fun z hz => by cases hz) (by decide) (by decide) ql_L_66 hcell hcv hcl ?_
        refine lv_astore_n (lv' := [(2, .ref q9), (0, .ref x), (1, .int w)]) hx hb dL_reason_6 rfl hl (by decide) rfl (fun ls hl => ?_)
        refine lv_sipush (v := (-1001)) hx hb dL_reason_7 (by decide) ?_
        exact k_iret hc hr dL_reason_10 hM hS (Nat.le_of_ble_eq_true rfl) (Nat.le_of_ble_eq_true rfl) h3
      · refine k_catch hc (E := "java/util/NoSuchElementException") (by decide +kernel) [⟨0, 5, 6, 66⟩] ⟨0, 5, 11, 71⟩ [] ht (fun z hz => by rcases List.mem_singleton.mp hz with rfl; exact ⟨by decide, _, ql_L_66, by decide⟩) (by decide) (by decide) ql_L_71 hcell hcv hcl ?_
        refine lv_astore_n (lv' := [(2, .ref q9), (0, .ref x), (1, .int w)]) hx hb dL_reason_11 rfl hl (by decide) rfl (fun ls hl => ?_)
        refine lv_sipush (v := (-1002)) hx hb dL_reason_12 (by decide) ?_
        exact k_iret hc hr dL_reason_15 hM hS (Nat.le_of_ble_eq_true rfl) (Nat.le_of_ble_eq_true rfl) h3
def v_reason (cs : CS) (w : Int32) : Int32 := if ¬ w < 0 ∧ w ≤ 2 then if ¬ cs 11 3 10 = 0 then (rsV cs w) else (-1002) else (-1001)
theorem h_reason (l : Launch) (hlf : l.stackTraces = false) (g : GC) (M : HM) (x : Nat) (cs : CS) (w : Int32) (hW : ClsAt g M x cs) : KH g l yL_reason cL_reason 3 (some .int) [(0, 5, 6, 66), (0, 5, 11, 71)] 7 3 18 [.ref x, .int w] M (.inl (some (.int (v_reason cs w)), M)) :=
  c_L_reason l hlf g M x w hW.o (c_X5_reason l hlf g M x cs w hW) (hW_q (fun _ => (hW_q (fun _ => hW_ok) (fun _ => (hW_x1 rfl)))) (fun _ => (hW_x0 rfl))) (fun v M1 h => by (repeat' split at h) <;> first | (cases h; exact ⟨_, rfl⟩) | cases h)
set_option maxHeartbeats 4000000 in
set_option maxRecDepth 100000 in
theorem c_L_account (l : Launch) (hlf : l.stackTraces = false) (g : GC) (M : HM) (x : Nat) (w : Int32) {fs : List Value} (hx7 : M x = some (.inr (7, fs))) {res res2 : Rs} (hK : KM g l yX5_account cX5_account 2 (some .int) 6 3 18 [.ref x, .int w] M res) (hO : hW ["java/lang/IllegalArgumentException"] res res2) (hB : ∀ (v : Value) (M1 : HM), res = .inl (some v, M1) → ∃ n : Int32, v = .int n) : KH g l yL_account cL_account 3 (some .int) [(0, 5, 6, 66)] 7 3 18 [.ref x, .int w] M res2 := by
  refine k_methH hlf (by decide) (Nat.le_of_ble_eq_true rfl) fun p e s m below meth c ls hc hr ht hM hS hl => ?_
  have hc : Cx g p l s m [.ref x, .int w].toArray meth c cL_account 3 RL := hc
  have hx := hc.1
  have hb := hc.2.1
  have hl : lv_has ls 3 [(0, .ref x), (1, .int w)] := hl
  refine lv_aload_n hx hb dL_account_0 rfl (lv_at hl 0 rfl) ?_
  refine lv_iload_n hx hb dL_account_1 rfl (lv_at hl 1 rfl) ?_
  refine k_goV hc (As := [.int w]) (rest := []) cw_L_133 rfl dL_account_2 hK hx7 hM hS rfl hl.1 ⟨Nat.le_of_ble_eq_true rfl, Nat.le_of_ble_eq_true rfl⟩ ⟨Nat.le_of_ble_eq_true rfl, Nat.le_of_ble_eq_true rfl⟩ (Nat.le_of_ble_eq_true rfl) (fun v M1 H locs hres hM hS => ?_) (fun E M1 H locs q9 ce hres hM hS hcell hcv hcl => ?_)
  · rcases hO with ⟨w, M2, h1, h3⟩ | ⟨k, E, M2, h0, h1, h3⟩
    · rw [hres] at h1
      cases h1
      obtain ⟨n, rfl⟩ := hB _ _ hres
      exact k_iret hc hr dL_account_5 hM hS (Nat.le_of_ble_eq_true rfl) (Nat.le_of_ble_eq_true rfl) h3
    · rw [hres] at h1
      cases h1
  · rcases hO with ⟨w, M2, h1, h3⟩ | ⟨k, E2, M2, h0, h1, h3⟩
    · rw [hres] at h1
      cases h1
    · rw [hres] at h1
      cases h1
      obtain ⟨rfl, rfl⟩ := es1 h0
      refine k_catch hc (E := "java/lang/IllegalArgumentException") (by decide +kernel) [] ⟨0, 5, 6, 66⟩ [] ht (fun z hz => by cases hz) (by decide) (by decide) ql_L_66 hcell hcv hcl ?_
      refine lv_astore_n (lv' := [(2, .ref q9), (0, .ref x), (1, .int w)]) hx hb dL_account_6 rfl hl (by decide) rfl (fun ls hl => ?_)
      refine lv_sipush (v := (-1001)) hx hb dL_account_7 (by decide) ?_
      exact k_iret hc hr dL_account_10 hM hS (Nat.le_of_ble_eq_true rfl) (Nat.le_of_ble_eq_true rfl) h3
def v_account (cs : CS) (w : Int32) : Int32 := if acOk w then (acV cs w) else (-1001)
theorem h_account (l : Launch) (hlf : l.stackTraces = false) (g : GC) (M : HM) (x : Nat) (cs : CS) (w : Int32) (hW : ClsAt g M x cs) : KH g l yL_account cL_account 3 (some .int) [(0, 5, 6, 66)] 7 3 18 [.ref x, .int w] M (.inl (some (.int (v_account cs w)), M)) :=
  c_L_account l hlf g M x w hW.o (c_X5_account l hlf g M x cs w hW) (hW_q (fun _ => hW_ok) (fun _ => (hW_x0 rfl))) (fun v M1 h => by (repeat' split at h) <;> first | (cases h; exact ⟨_, rfl⟩) | cases h)
set_option maxHeartbeats 4000000 in
set_option maxRecDepth 100000 in
theorem c_L_undo (l : Launch) (hlf : l.stackTraces = false) (g : GC) (M : HM) (x : Nat) {fs : List Value} (hx7 : M x = some (.inr (7, fs))) {res res2 : Rs} (hK : KM g l yX5_undo cX5_undo 1 (some .int) 6 3 18 [.ref x] M res) (hO : hW ["java/lang/IllegalStateException"] res res2) (hB : ∀ (v : Value) (M1 : HM), res = .inl (some v, M1) → ∃ n : Int32, v = .int n) : KH g l yL_undo cL_undo 2 (some .int) [(0, 4, 5, 105)] 7 3 18 [.ref x] M res2 := by
  refine k_methH hlf (by decide) (Nat.le_of_ble_eq_true rfl) fun p e s m below meth c ls hc hr ht hM hS hl => ?_
  have hc : Cx g p l s m [.ref x].toArray meth c cL_undo 2 RL := hc
  have hx := hc.1
  have hb := hc.2.1
  have hl : lv_has ls 2 [(0, .ref x)] := hl
  refine lv_aload_n hx hb dL_undo_0 rfl (lv_at hl 0 rfl) ?_
  refine k_goV hc (As := []) (rest := []) cw_L_136 rfl dL_undo_1 hK hx7 hM hS rfl hl.1 ⟨Nat.le_of_ble_eq_true rfl, Nat.le_of_ble_eq_true rfl⟩ ⟨Nat.le_of_ble_eq_true rfl, Nat.le_of_ble_eq_true rfl⟩ (Nat.le_of_ble_eq_true rfl) (fun v M1 H locs hres hM hS => ?_) (fun E M1 H locs q9 ce hres hM hS hcell hcv hcl => ?_)
  · rcases hO with ⟨w, M2, h1, h3⟩ | ⟨k, E, M2, h0, h1, h3⟩
    · rw [hres] at h1
      cases h1
      obtain ⟨n, rfl⟩ := hB _ _ hres
      exact k_iret hc hr dL_undo_4 hM hS (Nat.le_of_ble_eq_true rfl) (Nat.le_of_ble_eq_true rfl) h3
    · rw [hres] at h1
      cases h1
  · rcases hO with ⟨w, M2, h1, h3⟩ | ⟨k, E2, M2, h0, h1, h3⟩
    · rw [hres] at h1
      cases h1
    · rw [hres] at h1
      cases h1
      obtain ⟨rfl, rfl⟩ := es1 h0
      refine k_catch hc (E := "java/lang/IllegalStateException") (by decide +kernel) [] ⟨0, 4, 5, 105⟩ [] ht (fun z hz => by cases hz) (by decide) (by decide) ql_L_105 hcell hcv hcl ?_
      refine lv_astore_n (lv' := [(1, .ref q9), (0, .ref x)]) hx hb dL_undo_5 rfl hl (by decide) rfl (fun ls hl => ?_)
      refine lv_sipush (v := (-1001)) hx hb dL_undo_6 (by decide) ?_
      exact k_iret hc hr dL_undo_9 hM hS (Nat.le_of_ble_eq_true rfl) (Nat.le_of_ble_eq_true rfl) h3
def v_undo (cs : CS) : Int32 := if ¬ cs 11 3 5 = 0 then (tbS cs 11 3 5) else (-1001)
def s_undo (cs : CS) : CS := if ¬ cs 11 3 5 = 0 then (tbS cs) else cs
theorem h_undo (l : Launch) (hlf : l.stackTraces = false) (g : GC) (M : HM) (x : Nat) (cs : CS) (hW : ClsAt g M x cs) (hn : nxOk cs) : KH g l yL_undo cL_undo 2 (some .int) [(0, 4, 5, 105)] 7 3 18 [.ref x] M (.inl (some (.int (v_undo cs)), putC g M x (s_undo cs))) :=
  c_L_undo l hlf g M x hW.o (c_X5_undo l hlf g M x cs hW hn) (hW_s (fun _ => hW_ok) (fun _ => (by rw [putC_same hW]; exact (hW_x0 rfl)))) (fun v M1 h => by (repeat' split at h) <;> first | (cases h; exact ⟨_, rfl⟩) | cases h)
set_option maxHeartbeats 4000000 in
set_option maxRecDepth 100000 in
theorem c_L_restore (l : Launch) (hlf : l.stackTraces = false) (g : GC) (M : HM) (x : Nat) {fs : List Value} (hx7 : M x = some (.inr (7, fs))) {res res2 : Rs} (hK : KM g l yX5_restore cX5_restore 1 (some .int) 6 3 18 [.ref x] M res) (hO : hW ["java/lang/IllegalStateException"] res res2) (hB : ∀ (v : Value) (M1 : HM), res = .inl (some v, M1) → ∃ n : Int32, v = .int n) : KH g l yL_restore cL_restore 2 (some .int) [(0, 4, 5, 105)] 7 3 18 [.ref x] M res2 := by
  refine k_methH hlf (by decide) (Nat.le_of_ble_eq_true rfl) fun p e s m below meth c ls hc hr ht hM hS hl => ?_
  have hc : Cx g p l s m [.ref x].toArray meth c cL_restore 2 RL := hc
  have hx := hc.1
  have hb := hc.2.1
  have hl : lv_has ls 2 [(0, .ref x)] := hl
  refine lv_aload_n hx hb dL_restore_0 rfl (lv_at hl 0 rfl) ?_
  refine k_goV hc (As := []) (rest := []) cw_L_139 rfl dL_restore_1 hK hx7 hM hS rfl hl.1 ⟨Nat.le_of_ble_eq_true rfl, Nat.le_of_ble_eq_true rfl⟩ ⟨Nat.le_of_ble_eq_true rfl, Nat.le_of_ble_eq_true rfl⟩ (Nat.le_of_ble_eq_true rfl) (fun v M1 H locs hres hM hS => ?_) (fun E M1 H locs q9 ce hres hM hS hcell hcv hcl => ?_)
  · rcases hO with ⟨w, M2, h1, h3⟩ | ⟨k, E, M2, h0, h1, h3⟩
    · rw [hres] at h1
      cases h1
      obtain ⟨n, rfl⟩ := hB _ _ hres
      exact k_iret hc hr dL_restore_4 hM hS (Nat.le_of_ble_eq_true rfl) (Nat.le_of_ble_eq_true rfl) h3
    · rw [hres] at h1
      cases h1
  · rcases hO with ⟨w, M2, h1, h3⟩ | ⟨k, E2, M2, h0, h1, h3⟩
    · rw [hres] at h1
      cases h1
    · rw [hres] at h1
      cases h1
      obtain ⟨rfl, rfl⟩ := es1 h0
      refine k_catch hc (E := "java/lang/IllegalStateException") (by decide +kernel) [] ⟨0, 4, 5, 105⟩ [] ht (fun z hz => by cases hz) (by decide) (by decide) ql_L_105 hcell hcv hcl ?_
      refine lv_astore_n (lv' := [(1, .ref q9), (0, .ref x)]) hx hb dL_restore_5 rfl hl (by decide) rfl (fun ls hl => ?_)
      refine lv_sipush (v := (-1001)) hx hb dL_restore_6 (by decide) ?_
      exact k_iret hc hr dL_restore_9 hM hS (Nat.le_of_ble_eq_true rfl) (Nat.le_of_ble_eq_true rfl) h3
def v_restore (cs : CS) : Int32 := if ¬ cs 11 3 7 = 0 then (cs 2 9 1) else (-1001)
def s_restore (cs : CS) : CS := if ¬ cs 11 3 7 = 0 then (upS (upC cs 0 (cs 2)) 5 0) else cs
theorem h_restore (l : Launch) (hlf : l.stackTraces = false) (g : GC) (M : HM) (x : Nat) (cs : CS) (hW : ClsAt g M x cs) : KH g l yL_restore cL_restore 2 (some .int) [(0, 4, 5, 105)] 7 3 18 [.ref x] M (.inl (some (.int (v_restore cs)), putC g M x (s_restore cs))) :=
  c_L_restore l hlf g M x hW.o (c_X5_restore l hlf g M x cs hW) (hW_s (fun _ => hW_ok) (fun _ => (by rw [putC_same hW]; exact (hW_x0 rfl)))) (fun v M1 h => by (repeat' split at h) <;> first | (cases h; exact ⟨_, rfl⟩) | cases h)
set_option maxHeartbeats 4000000 in
set_option maxRecDepth 100000 in
theorem c_L_rightShare (l : Launch) (hlf : l.stackTraces = false) (g : GC) (M : HM) (x : Nat) {fs : List Value} (hx7 : M x = some (.inr (7, fs))) {res res2 : Rs} (hK : KM g l yX5_rightShare cX5_rightShare 2 (some .double) 6 3 18 [.ref x] M res) (hO : hWd ["java/lang/ArithmeticException"] res res2) (hB : ∀ (v : Value) (M1 : HM), res = .inl (some v, M1) → ∃ n, v = .double n) : KH g l yL_rightShare cL_rightShare 2 (some .double) [(0, 4, 5, 124)] 7 3 18 [.ref x] M res2 := by
  refine k_methH hlf (by decide) (Nat.le_of_ble_eq_true rfl) fun p e s m below meth c ls hc hr ht hM hS hl => ?_
  have hc : Cx g p l s m [.ref x].toArray meth c cL_rightShare 2 RL := hc
  have hx := hc.1
  have hb := hc.2.1
  have hl : lv_has ls 2 [(0, .ref x)] := hl
  refine lv_aload_n hx hb dL_rightShare_0 rfl (lv_at hl 0 rfl) ?_
  refine k_goV hc (As := []) (rest := []) cw_L_127 rfl dL_rightShare_1 hK hx7 hM hS rfl hl.1 ⟨Nat.le_of_ble_eq_true rfl, Nat.le_of_ble_eq_true rfl⟩ ⟨Nat.le_of_ble_eq_true rfl, Nat.le_of_ble_eq_true rfl⟩ (Nat.le_of_ble_eq_true rfl) (fun v M1 H locs hres hM hS => ?_) (fun E M1 H locs q9 ce hres hM hS hcell hcv hcl => ?_)
  · rcases hO with ⟨w, M2, h1, h3⟩ | ⟨E, M2, h0, h1, h3⟩
    · rw [hres] at h1
      cases h1
      obtain ⟨n, rfl⟩ := hB _ _ hres
      exact k_dret hc hr dL_rightShare_4 hM hS (Nat.le_of_ble_eq_true rfl) (Nat.le_of_ble_eq_true rfl) h3
    · rw [hres] at h1
      cases h1
  · rcases hO with ⟨w, M2, h1, h3⟩ | ⟨E2, M2, h0, h1, h3⟩
    · rw [hres] at h1
      cases h1
    · rw [hres] at h1
      cases h1
      obtain rfl : E = "java/lang/ArithmeticException" := (Option.some.inj h0).symm
      refine k_catch hc (E := "java/lang/ArithmeticException") (by decide +kernel) [] ⟨0, 4, 5, 124⟩ [] ht (fun z hz => by cases hz) (by decide) (by decide) ql_L_124 hcell hcv hcl ?_
      refine lv_astore_n (lv' := [(1, .ref q9), (0, .ref x)]) hx hb dL_rightShare_5 rfl hl (by decide) rfl (fun ls hl => ?_)
      refine lv_ldc2d (v := 13875388141788987392) hx hb hc.2.2.2.1 (hc.2.2.2.2.1 _ qk_L_131) dL_rightShare_6 ?_
      exact k_dret hc hr dL_rightShare_9 hM hS (Nat.le_of_ble_eq_true rfl) (Nat.le_of_ble_eq_true rfl) h3
def v_rightShare (cs : CS) : UInt64 := if 0 < cdF (cs 0) 0 then (FP.ddiv (FP.i2d (cdF (cs 0) 1)) (FP.i2d (cdF (cs 0) 0))) else 13875388141788987392
theorem h_rightShare (l : Launch) (hlf : l.stackTraces = false) (g : GC) (M : HM) (x : Nat) (cs : CS) (hW : ClsAt g M x cs) (hf : 0 < cdF (cs 0) 0 → vf_n64 (FP.ddiv (FP.i2d (cdF (cs 0) 1)) (FP.i2d (cdF (cs 0) 0)))) : KH g l yL_rightShare cL_rightShare 2 (some .double) [(0, 4, 5, 124)] 7 3 18 [.ref x] M (.inl (some (.double (v_rightShare cs)), M)) :=
  c_L_rightShare l hlf g M x hW.o (c_X5_rightShare l hlf g M x cs hW hf) (hWd_q (fun _ => (Or.inl ⟨_, _, rfl, rfl⟩)) (fun _ => (Or.inr ⟨_, _, rfl, rfl, rfl⟩))) (fun v M1 h => by (repeat' split at h) <;> first | (cases h; exact ⟨_, rfl⟩) | cases h)
set_option maxHeartbeats 4000000 in
set_option maxRecDepth 100000 in
theorem c_L_meanThirst (l : Launch) (hlf : l.stackTraces = false) (g : GC) (M : HM) (x : Nat) {fs : List Value} (hx7 : M x = some (.inr (7, fs))) {res res2 : Rs} (hK : KM g l yX5_meanThirst cX5_meanThirst 2 (some .float) 6 3 18 [.ref x] M res) (hO : hWf ["java/lang/ArithmeticException"] res res2) (hB : ∀ (v : Value) (M1 : HM), res = .inl (some v, M1) → ∃ n, v = .float n) : KH g l yL_meanThirst cL_meanThirst 2 (some .float) [(0, 4, 5, 124)] 7 3 18 [.ref x] M res2 := by
  refine k_methH hlf (by decide) (Nat.le_of_ble_eq_true rfl) fun p e s m below meth c ls hc hr ht hM hS hl => ?_
  have hc : Cx g p l s m [.ref x].toArray meth c cL_meanThirst 2 RL := hc
  have hx := hc.1
  have hb := hc.2.1
  have hl : lv_has ls 2 [(0, .ref x)] := hl
  refine lv_aload_n hx hb dL_meanThirst_0 rfl (lv_at hl 0 rfl) ?_
  refine k_goV hc (As := []) (rest := []) cw_L_120 rfl dL_meanThirst_1 hK hx7 hM hS rfl hl.1 ⟨Nat.le_of_ble_eq_true rfl, Nat.le_of_ble_eq_true rfl⟩ ⟨Nat.le_of_ble_eq_true rfl, Nat.le_of_ble_eq_true rfl⟩ (Nat.le_of_ble_eq_true rfl) (fun v M1 H locs hres hM hS => ?_) (fun E M1 H locs q9 ce hres hM hS hcell hcv hcl => ?_)
  · rcases hO with ⟨w, M2, h1, h3⟩ | ⟨E, M2, h0, h1, h3⟩
    · rw [hres] at h1
      cases h1
      obtain ⟨n, rfl⟩ := hB _ _ hres
      exact k_fret hc hr dL_meanThirst_4 hM hS (Nat.le_of_ble_eq_true rfl) (Nat.le_of_ble_eq_true rfl) h3
    · rw [hres] at h1
      cases h1
  · rcases hO with ⟨w, M2, h1, h3⟩ | ⟨E2, M2, h0, h1, h3⟩
    · rw [hres] at h1
      cases h1
    · rw [hres] at h1
      cases h1
      obtain rfl : E = "java/lang/ArithmeticException" := (Option.some.inj h0).symm
      refine k_catch hc (E := "java/lang/ArithmeticException") (by decide +kernel) [] ⟨0, 4, 5, 124⟩ [] ht (fun z hz => by cases hz) (by decide) (by decide) ql_L_124 hcell hcv hcl ?_
      refine lv_astore_n (lv' := [(1, .ref q9), (0, .ref x)]) hx hb dL_meanThirst_5 rfl hl (by decide) rfl (fun ls hl => ?_)
      refine lv_ldcf (v := 3296346112) hx hb hc.2.2.2.1 (hc.2.2.2.2.1 _ qk_L_126) dL_meanThirst_6 ?_
      exact k_fret hc hr dL_meanThirst_8 hM hS (Nat.le_of_ble_eq_true rfl) (Nat.le_of_ble_eq_true rfl) h3
def v_meanThirst (cs : CS) : UInt32 := if 0 < cs 0 8 4 then (FP.fdiv (FP.i2f (rsum 6 (cs 0 8 5) (cs 0 5))) (FP.i2f (cs 0 8 4))) else 3296346112
theorem h_meanThirst (l : Launch) (hlf : l.stackTraces = false) (g : GC) (M : HM) (x : Nat) (cs : CS) (hW : ClsAt g M x cs) (hf : 0 < cs 0 8 4 → vf_n32 (FP.fdiv (FP.i2f (rsum 6 (cs 0 8 5) (cs 0 5))) (FP.i2f (cs 0 8 4)))) : KH g l yL_meanThirst cL_meanThirst 2 (some .float) [(0, 4, 5, 124)] 7 3 18 [.ref x] M (.inl (some (.float (v_meanThirst cs)), M)) :=
  c_L_meanThirst l hlf g M x hW.o (c_X5_meanThirst l hlf g M x cs hW hf) (hWf_q (fun _ => (Or.inl ⟨_, _, rfl, rfl⟩)) (fun _ => (Or.inr ⟨_, _, rfl, rfl, rfl⟩))) (fun v M1 h => by (repeat' split at h) <;> first | (cases h; exact ⟨_, rfl⟩) | cases h)
set_option maxHeartbeats 4000000 in
set_option maxRecDepth 100000 in
theorem c_L_stakeAt (l : Launch) (hlf : l.stackTraces = false) (g : GC) (M : HM) (x : Nat) (i : Int32) {fs : List Value} (hx7 : M x = some (.inr (7, fs))) {res res2 : Rs} (hK : KM g l yX5_stakeAt cX5_stakeAt 2 (some .int) 7 3 18 [.ref x, .int i] M res) (hO : hW ["java/lang/IndexOutOfBoundsException"] res res2) (hB : ∀ (v : Value) (M1 : HM), res = .inl (some v, M1) → ∃ n : Int32, v = .int n) : KH g l yL_stakeAt cL_stakeAt 3 (some .int) [(0, 5, 6, 57)] 8 3 18 [.ref x, .int i] M res2 := by
  refine k_methH hlf (by decide) (Nat.le_of_ble_eq_true rfl) fun p e s m below meth c ls hc hr ht hM hS hl => ?_
  have hc : Cx g p l s m [.ref x, .int i].toArray meth c cL_stakeAt 3 RL := hc
  have hx := hc.1
  have hb := hc.2.1
  have hl : lv_has ls 3 [(0, .ref x), (1, .int i)] := hl
  refine lv_aload_n hx hb dL_stakeAt_0 rfl (lv_at hl 0 rfl) ?_
  refine lv_iload_n hx hb dL_stakeAt_1 rfl (lv_at hl 1 rfl) ?_
  refine k_goV hc (As := [.int i]) (rest := []) cw_L_54 rfl dL_stakeAt_2 hK hx7 hM hS rfl hl.1 ⟨Nat.le_of_ble_eq_true rfl, Nat.le_of_ble_eq_true rfl⟩ ⟨Nat.le_of_ble_eq_true rfl, Nat.le_of_ble_eq_true rfl⟩ (Nat.le_of_ble_eq_true rfl) (fun v M1 H locs hres hM hS => ?_) (fun E M1 H locs q9 ce hres hM hS hcell hcv hcl => ?_)
  · rcases hO with ⟨w, M2, h1, h3⟩ | ⟨k, E, M2, h0, h1, h3⟩
    · rw [hres] at h1
      cases h1
      obtain ⟨n, rfl⟩ := hB _ _ hres
      exact k_iret hc hr dL_stakeAt_5 hM hS (Nat.le_of_ble_eq_true rfl) (Nat.le_of_ble_eq_true rfl) h3
    · rw [hres] at h1
      cases h1
  · rcases hO with ⟨w, M2, h1, h3⟩ | ⟨k, E2, M2, h0, h1, h3⟩
    · rw [hres] at h1
      cases h1
    · rw [hres] at h1
      cases h1
      obtain ⟨rfl, rfl⟩ := es1 h0
      refine k_catch hc (E := "java/lang/IndexOutOfBoundsException") (by decide +kernel) [] ⟨0, 5, 6, 57⟩ [] ht (fun z hz => by cases hz) (by decide) (by decide) ql_L_57 hcell hcv hcl ?_
      refine lv_astore_n (lv' := [(2, .ref q9), (0, .ref x), (1, .int i)]) hx hb dL_stakeAt_6 rfl hl (by decide) rfl (fun ls hl => ?_)
      refine lv_sipush (v := (-1001)) hx hb dL_stakeAt_7 (by decide) ?_
      exact k_iret hc hr dL_stakeAt_10 hM hS (Nat.le_of_ble_eq_true rfl) (Nat.le_of_ble_eq_true rfl) h3
def v_stakeAt (cs : CS) (i : Int32) : Int32 := if rin 10 (cs 0 8 0) i then (gS (cs 0) i) else (-1001)
theorem h_stakeAt (l : Launch) (hlf : l.stackTraces = false) (g : GC) (M : HM) (x : Nat) (cs : CS) (i : Int32) (hW : ClsAt g M x cs) : KH g l yL_stakeAt cL_stakeAt 3 (some .int) [(0, 5, 6, 57)] 8 3 18 [.ref x, .int i] M (.inl (some (.int (v_stakeAt cs i)), M)) :=
  c_L_stakeAt l hlf g M x i hW.o (c_X5_stakeAt l hlf g M x cs i hW) (hW_q (fun _ => hW_ok) (fun _ => (hW_x0 rfl))) (fun v M1 h => by (repeat' split at h) <;> first | (cases h; exact ⟨_, rfl⟩) | cases h)
set_option maxHeartbeats 4000000 in
set_option maxRecDepth 100000 in
theorem c_L_drawnAt (l : Launch) (hlf : l.stackTraces = false) (g : GC) (M : HM) (x : Nat) (i j : Int32) {fs : List Value} (hx7 : M x = some (.inr (7, fs))) {res res2 : Rs} (hK : KM g l yX5_drawnAt cX5_drawnAt 4 (some .int) 7 3 18 [.ref x, .int i, .int j] M res) (hO : hW ["java/lang/IndexOutOfBoundsException", "java/util/NoSuchElementException"] res res2) (hB : ∀ (v : Value) (M1 : HM), res = .inl (some v, M1) → ∃ n : Int32, v = .int n) : KH g l yL_drawnAt cL_drawnAt 4 (some .int) [(0, 6, 7, 57), (0, 6, 12, 71)] 8 3 18 [.ref x, .int i, .int j] M res2 := by
  refine k_methH hlf (by decide) (Nat.le_of_ble_eq_true rfl) fun p e s m below meth c ls hc hr ht hM hS hl => ?_
  have hc : Cx g p l s m [.ref x, .int i, .int j].toArray meth c cL_drawnAt 4 RL := hc
  have hx := hc.1
  have hb := hc.2.1
  have hl : lv_has ls 4 [(0, .ref x), (1, .int i), (2, .int j)] := hl
  refine lv_aload_n hx hb dL_drawnAt_0 rfl (lv_at hl 0 rfl) ?_
  refine lv_iload_n hx hb dL_drawnAt_1 rfl (lv_at hl 1 rfl) ?_
  refine lv_iload_n hx hb dL_drawnAt_2 rfl (lv_at hl 2 rfl) ?_
  refine k_goV hc (As := [.int i, .int j]) (rest := []) cw_L_68 rfl dL_drawnAt_3 hK hx7 hM hS rfl hl.1 ⟨Nat.le_of_ble_eq_true rfl, Nat.le_of_ble_eq_true rfl⟩ ⟨Nat.le_of_ble_eq_true rfl, Nat.le_of_ble_eq_true rfl⟩ (Nat.le_of_ble_eq_true rfl) (fun v M1 H locs hres hM hS => ?_) (fun E M1 H locs q9 ce hres hM hS hcell hcv hcl => ?_)
  · rcases hO with ⟨w, M2, h1, h3⟩ | ⟨k, E, M2, h0, h1, h3⟩
    · rw [hres] at h1
      cases h1
      obtain ⟨n, rfl⟩ := hB _ _ hres
      exact k_iret hc hr dL_drawnAt_6 hM hS (Nat.le_of_ble_eq_true rfl) (Nat.le_of_ble_eq_true rfl) h3
    · rw [hres] at h1
      cases h1
  · rcases hO with ⟨w, M2, h1, h3⟩ | ⟨k, E2, M2, h0, h1, h3⟩
    · rw [hres] at h1
      cases h1
    · rw [hres] at h1
      cases h1
      rcases es2 h0 with ⟨rfl, rfl⟩ | ⟨rfl, rfl⟩
      · refine k_catch hc (E := "java/lang/IndexOutOfBoundsException") (by decide +kernel) [] ⟨0, 6, 7, 57⟩ [⟨0, 6, 12, 71⟩] ht (fun z hz => by cases hz) (by decide) (by decide) ql_L_57 hcell hcv hcl ?_
        refine lv_astore_n (lv' := [(3, .ref q9), (0, .ref x), (1, .int i), (2, .int j)]) hx hb dL_drawnAt_7 rfl hl (by decide) rfl (fun ls hl => ?_)
        refine lv_sipush (v := (-1001)) hx hb dL_drawnAt_8 (by decide) ?_
        exact k_iret hc hr dL_drawnAt_11 hM hS (Nat.le_of_ble_eq_true rfl) (Nat.le_of_ble_eq_true rfl) h3
      · refine k_catch hc (E := "java/util/NoSuchElementException") (by decide +kernel) [⟨0, 6, 7, 57⟩] ⟨0, 6, 12, 71⟩ [] ht (fun z hz => by rcases List.mem_singleton.mp hz with rfl; exact ⟨by decide, _, ql_L_57, by decide⟩) (by decide) (by decide) ql_L_71 hcell hcv hcl ?_
        refine lv_astore_n (lv' := [(3, .ref q9), (0, .ref x), (1, .int i), (2, .int j)]) hx hb dL_drawnAt_12 rfl hl (by decide) rfl (fun ls hl => ?_)
        refine lv_sipush (v := (-1002)) hx hb dL_drawnAt_13 (by decide) ?_
        exact k_iret hc hr dL_drawnAt_16 hM hS (Nat.le_of_ble_eq_true rfl) (Nat.le_of_ble_eq_true rfl) h3
def v_drawnAt (cs : CS) (i : Int32) (j : Int32) : Int32 := if rin 10 (cs 0 8 0) i then if hasSh (cs 0) j then if ¬ drawnF (cs 0) i j = -1 then (drawnF (cs 0) i j) else (-1002) else (-1001) else (-1001)
theorem h_drawnAt (l : Launch) (hlf : l.stackTraces = false) (g : GC) (M : HM) (x : Nat) (cs : CS) (i : Int32) (j : Int32) (hW : ClsAt g M x cs) : KH g l yL_drawnAt cL_drawnAt 4 (some .int) [(0, 6, 7, 57), (0, 6, 12, 71)] 8 3 18 [.ref x, .int i, .int j] M (.inl (some (.int (v_drawnAt cs i j)), M)) :=
  c_L_drawnAt l hlf g M x i j hW.o (c_X5_drawnAt l hlf g M x cs i j hW) (hW_q (fun _ => (hW_q (fun _ => (hW_q (fun _ => hW_ok) (fun _ => (hW_x1 rfl)))) (fun _ => (hW_x0 rfl)))) (fun _ => (hW_x0 rfl))) (fun v M1 h => by (repeat' split at h) <;> first | (cases h; exact ⟨_, rfl⟩) | cases h)
set_option maxHeartbeats 4000000 in
set_option maxRecDepth 100000 in
theorem c_L_seemsAgain (l : Launch) (hlf : l.stackTraces = false) (g : GC) (M : HM) (x : Nat) (i j : Int32) {fs : List Value} (hx7 : M x = some (.inr (7, fs))) {res res2 : Rs} (hK : KM g l yX5_seemsAgain cX5_seemsAgain 3 (some .int) 8 3 18 [.ref x, .int i, .int j] M res) (hO : hW ["java/lang/IndexOutOfBoundsException"] res res2) (hB : ∀ (v : Value) (M1 : HM), res = .inl (some v, M1) → ∃ n : Int32, v = .int n) : KH g l yL_seemsAgain cL_seemsAgain 4 (some .int) [(0, 6, 7, 57)] 9 3 18 [.ref x, .int i, .int j] M res2 := by
  refine k_methH hlf (by decide) (Nat.le_of_ble_eq_true rfl) fun p e s m below meth c ls hc hr ht hM hS hl => ?_
  have hc : Cx g p l s m [.ref x, .int i, .int j].toArray meth c cL_seemsAgain 4 RL := hc
  have hx := hc.1
  have hb := hc.2.1
  have hl : lv_has ls 4 [(0, .ref x), (1, .int i), (2, .int j)] := hl
  refine lv_aload_n hx hb dL_seemsAgain_0 rfl (lv_at hl 0 rfl) ?_
  refine lv_iload_n hx hb dL_seemsAgain_1 rfl (lv_at hl 1 rfl) ?_
  refine lv_iload_n hx hb dL_seemsAgain_2 rfl (lv_at hl 2 rfl) ?_
  refine k_goV hc (As := [.int i, .int j]) (rest := []) cw_L_79 rfl dL_seemsAgain_3 hK hx7 hM hS rfl hl.1 ⟨Nat.le_of_ble_eq_true rfl, Nat.le_of_ble_eq_true rfl⟩ ⟨Nat.le_of_ble_eq_true rfl, Nat.le_of_ble_eq_true rfl⟩ (Nat.le_of_ble_eq_true rfl) (fun v M1 H locs hres hM hS => ?_) (fun E M1 H locs q9 ce hres hM hS hcell hcv hcl => ?_)
  · rcases hO with ⟨w, M2, h1, h3⟩ | ⟨k, E, M2, h0, h1, h3⟩
    · rw [hres] at h1
      cases h1
      obtain ⟨n, rfl⟩ := hB _ _ hres
      exact k_iret hc hr dL_seemsAgain_6 hM hS (Nat.le_of_ble_eq_true rfl) (Nat.le_of_ble_eq_true rfl) h3
    · rw [hres] at h1
      cases h1
  · rcases hO with ⟨w, M2, h1, h3⟩ | ⟨k, E2, M2, h0, h1, h3⟩
    · rw [hres] at h1
      cases h1
    · rw [hres] at h1
      cases h1
      obtain ⟨rfl, rfl⟩ := es1 h0
      refine k_catch hc (E := "java/lang/IndexOutOfBoundsException") (by decide +kernel) [] ⟨0, 6, 7, 57⟩ [] ht (fun z hz => by cases hz) (by decide) (by decide) ql_L_57 hcell hcv hcl ?_
      refine lv_astore_n (lv' := [(3, .ref q9), (0, .ref x), (1, .int i), (2, .int j)]) hx hb dL_seemsAgain_7 rfl hl (by decide) rfl (fun ls hl => ?_)
      refine lv_sipush (v := (-1001)) hx hb dL_seemsAgain_8 (by decide) ?_
      exact k_iret hc hr dL_seemsAgain_11 hM hS (Nat.le_of_ble_eq_true rfl) (Nat.le_of_ble_eq_true rfl) h3
def v_seemsAgain (cs : CS) (i : Int32) (j : Int32) : Int32 := if rin 10 (cs 0 8 0) i then if rin 4 (cs 0 8 1) j then (walkF (cs 0) i j) else (-1001) else (-1001)
theorem h_seemsAgain (l : Launch) (hlf : l.stackTraces = false) (g : GC) (M : HM) (x : Nat) (cs : CS) (i : Int32) (j : Int32) (hW : ClsAt g M x cs) : KH g l yL_seemsAgain cL_seemsAgain 4 (some .int) [(0, 6, 7, 57)] 9 3 18 [.ref x, .int i, .int j] M (.inl (some (.int (v_seemsAgain cs i j)), M)) :=
  c_L_seemsAgain l hlf g M x i j hW.o (c_X5_seemsAgain l hlf g M x cs i j hW) (hW_q (fun _ => (hW_q (fun _ => hW_ok) (fun _ => (hW_x0 rfl)))) (fun _ => (hW_x0 rfl))) (fun v M1 h => by (repeat' split at h) <;> first | (cases h; exact ⟨_, rfl⟩) | cases h)
set_option maxHeartbeats 4000000 in
set_option maxRecDepth 100000 in
theorem c_L_clearIn (l : Launch) (hlf : l.stackTraces = false) (g : GC) (M : HM) (x : Nat) (i j : Int32) {fs : List Value} (hx7 : M x = some (.inr (7, fs))) {res res2 : Rs} (hK : KM g l yX5_clearIn cX5_clearIn 4 (some .int) 8 3 18 [.ref x, .int i, .int j] M res) (hO : hW ["java/lang/IndexOutOfBoundsException", "java/util/NoSuchElementException"] res res2) (hB : ∀ (v : Value) (M1 : HM), res = .inl (some v, M1) → ∃ n : Int32, v = .int n) : KH g l yL_clearIn cL_clearIn 4 (some .int) [(0, 6, 7, 57), (0, 6, 12, 71)] 9 3 18 [.ref x, .int i, .int j] M res2 := by
  refine k_methH hlf (by decide) (Nat.le_of_ble_eq_true rfl) fun p e s m below meth c ls hc hr ht hM hS hl => ?_
  have hc : Cx g p l s m [.ref x, .int i, .int j].toArray meth c cL_clearIn 4 RL := hc
  have hx := hc.1
  have hb := hc.2.1
  have hl : lv_has ls 4 [(0, .ref x), (1, .int i), (2, .int j)] := hl
  refine lv_aload_n hx hb dL_clearIn_0 rfl (lv_at hl 0 rfl) ?_
  refine lv_iload_n hx hb dL_clearIn_1 rfl (lv_at hl 1 rfl) ?_
  refine lv_iload_n hx hb dL_clearIn_2 rfl (lv_at hl 2 rfl) ?_
  refine k_goV hc (As := [.int i, .int j]) (rest := []) cw_L_89 rfl dL_clearIn_3 hK hx7 hM hS rfl hl.1 ⟨Nat.le_of_ble_eq_true rfl, Nat.le_of_ble_eq_true rfl⟩ ⟨Nat.le_of_ble_eq_true rfl, Nat.le_of_ble_eq_true rfl⟩ (Nat.le_of_ble_eq_true rfl) (fun v M1 H locs hres hM hS => ?_) (fun E M1 H locs q9 ce hres hM hS hcell hcv hcl => ?_)
  · rcases hO with ⟨w, M2, h1, h3⟩ | ⟨k, E, M2, h0, h1, h3⟩
    · rw [hres] at h1
      cases h1
      obtain ⟨n, rfl⟩ := hB _ _ hres
      exact k_iret hc hr dL_clearIn_6 hM hS (Nat.le_of_ble_eq_true rfl) (Nat.le_of_ble_eq_true rfl) h3
    · rw [hres] at h1
      cases h1
  · rcases hO with ⟨w, M2, h1, h3⟩ | ⟨k, E2, M2, h0, h1, h3⟩
    · rw [hres] at h1
      cases h1
    · rw [hres] at h1
      cases h1
      rcases es2 h0 with ⟨rfl, rfl⟩ | ⟨rfl, rfl⟩
      · refine k_catch hc (E := "java/lang/IndexOutOfBoundsException") (by decide +kernel) [] ⟨0, 6, 7, 57⟩ [⟨0, 6, 12, 71⟩] ht (fun z hz => by cases hz) (by decide) (by decide) ql_L_57 hcell hcv hcl ?_
        refine lv_astore_n (lv' := [(3, .ref q9), (0, .ref x), (1, .int i), (2, .int j)]) hx hb dL_clearIn_7 rfl hl (by decide) rfl (fun ls hl => ?_)
        refine lv_sipush (v := (-1001)) hx hb dL_clearIn_8 (by decide) ?_
        exact k_iret hc hr dL_clearIn_11 hM hS (Nat.le_of_ble_eq_true rfl) (Nat.le_of_ble_eq_true rfl) h3
      · refine k_catch hc (E := "java/util/NoSuchElementException") (by decide +kernel) [⟨0, 6, 7, 57⟩] ⟨0, 6, 12, 71⟩ [] ht (fun z hz => by rcases List.mem_singleton.mp hz with rfl; exact ⟨by decide, _, ql_L_57, by decide⟩) (by decide) (by decide) ql_L_71 hcell hcv hcl ?_
        refine lv_astore_n (lv' := [(3, .ref q9), (0, .ref x), (1, .int i), (2, .int j)]) hx hb dL_clearIn_12 rfl hl (by decide) rfl (fun ls hl => ?_)
        refine lv_sipush (v := (-1002)) hx hb dL_clearIn_13 (by decide) ?_
        exact k_iret hc hr dL_clearIn_16 hM hS (Nat.le_of_ble_eq_true rfl) (Nat.le_of_ble_eq_true rfl) h3
def v_clearIn (cs : CS) (i : Int32) (j : Int32) : Int32 := if rin 10 (cs 0 8 0) i then if rin 4 (cs 0 8 1) j then if ¬ clearF (cs 0) i j = -1 then (clearF (cs 0) i j) else (-1002) else (-1001) else (-1001)
theorem h_clearIn (l : Launch) (hlf : l.stackTraces = false) (g : GC) (M : HM) (x : Nat) (cs : CS) (i : Int32) (j : Int32) (hW : ClsAt g M x cs) : KH g l yL_clearIn cL_clearIn 4 (some .int) [(0, 6, 7, 57), (0, 6, 12, 71)] 9 3 18 [.ref x, .int i, .int j] M (.inl (some (.int (v_clearIn cs i j)), M)) :=
  c_L_clearIn l hlf g M x i j hW.o (c_X5_clearIn l hlf g M x cs i j hW) (hW_q (fun _ => (hW_q (fun _ => (hW_q (fun _ => hW_ok) (fun _ => (hW_x1 rfl)))) (fun _ => (hW_x0 rfl)))) (fun _ => (hW_x0 rfl))) (fun v M1 h => by (repeat' split at h) <;> first | (cases h; exact ⟨_, rfl⟩) | cases h)
set_option maxHeartbeats 4000000 in
set_option maxRecDepth 100000 in
theorem c_L_postOf (l : Launch) (hlf : l.stackTraces = false) (g : GC) (M : HM) (x : Nat) (i o : Int32) {fs : List Value} (hx7 : M x = some (.inr (7, fs))) {res res2 : Rs} (hK : KM g l yX5_postOf cX5_postOf 3 (some .int) 7 3 18 [.ref x, .int i, .int o] M res) (hO : hW ["java/lang/IndexOutOfBoundsException"] res res2) (hB : ∀ (v : Value) (M1 : HM), res = .inl (some v, M1) → ∃ n : Int32, v = .int n) : KH g l yL_postOf cL_postOf 4 (some .int) [(0, 6, 7, 57)] 8 3 18 [.ref x, .int i, .int o] M res2 := by
  refine k_methH hlf (by decide) (Nat.le_of_ble_eq_true rfl) fun p e s m below meth c ls hc hr ht hM hS hl => ?_
  have hc : Cx g p l s m [.ref x, .int i, .int o].toArray meth c cL_postOf 4 RL := hc
  have hx := hc.1
  have hb := hc.2.1
  have hl : lv_has ls 4 [(0, .ref x), (1, .int i), (2, .int o)] := hl
  refine lv_aload_n hx hb dL_postOf_0 rfl (lv_at hl 0 rfl) ?_
  refine lv_iload_n hx hb dL_postOf_1 rfl (lv_at hl 1 rfl) ?_
  refine lv_iload_n hx hb dL_postOf_2 rfl (lv_at hl 2 rfl) ?_
  refine k_goV hc (As := [.int i, .int o]) (rest := []) cw_L_59 rfl dL_postOf_3 hK hx7 hM hS rfl hl.1 ⟨Nat.le_of_ble_eq_true rfl, Nat.le_of_ble_eq_true rfl⟩ ⟨Nat.le_of_ble_eq_true rfl, Nat.le_of_ble_eq_true rfl⟩ (Nat.le_of_ble_eq_true rfl) (fun v M1 H locs hres hM hS => ?_) (fun E M1 H locs q9 ce hres hM hS hcell hcv hcl => ?_)
  · rcases hO with ⟨w, M2, h1, h3⟩ | ⟨k, E, M2, h0, h1, h3⟩
    · rw [hres] at h1
      cases h1
      obtain ⟨n, rfl⟩ := hB _ _ hres
      exact k_iret hc hr dL_postOf_6 hM hS (Nat.le_of_ble_eq_true rfl) (Nat.le_of_ble_eq_true rfl) h3
    · rw [hres] at h1
      cases h1
  · rcases hO with ⟨w, M2, h1, h3⟩ | ⟨k, E2, M2, h0, h1, h3⟩
    · rw [hres] at h1
      cases h1
    · rw [hres] at h1
      cases h1
      obtain ⟨rfl, rfl⟩ := es1 h0
      refine k_catch hc (E := "java/lang/IndexOutOfBoundsException") (by decide +kernel) [] ⟨0, 6, 7, 57⟩ [] ht (fun z hz => by cases hz) (by decide) (by decide) ql_L_57 hcell hcv hcl ?_
      refine lv_astore_n (lv' := [(3, .ref q9), (0, .ref x), (1, .int i), (2, .int o)]) hx hb dL_postOf_7 rfl hl (by decide) rfl (fun ls hl => ?_)
      refine lv_sipush (v := (-1001)) hx hb dL_postOf_8 (by decide) ?_
      exact k_iret hc hr dL_postOf_11 hM hS (Nat.le_of_ble_eq_true rfl) (Nat.le_of_ble_eq_true rfl) h3
def v_postOf (cs : CS) (i : Int32) (o : Int32) : Int32 := if rin 4 (cs 0 8 1) i then (if o = 0 then gP (cs 0) i else gH (cs 0) i) else (-1001)
theorem h_postOf (l : Launch) (hlf : l.stackTraces = false) (g : GC) (M : HM) (x : Nat) (cs : CS) (i : Int32) (o : Int32) (hW : ClsAt g M x cs) : KH g l yL_postOf cL_postOf 4 (some .int) [(0, 6, 7, 57)] 8 3 18 [.ref x, .int i, .int o] M (.inl (some (.int (v_postOf cs i o)), M)) :=
  c_L_postOf l hlf g M x i o hW.o (c_X5_postOf l hlf g M x cs i o hW) (hW_q (fun _ => hW_ok) (fun _ => (hW_x0 rfl))) (fun v M1 h => by (repeat' split at h) <;> first | (cases h; exact ⟨_, rfl⟩) | cases h)
set_option maxHeartbeats 4000000 in
set_option maxRecDepth 100000 in
theorem c_L_wrongBy (l : Launch) (hlf : l.stackTraces = false) (g : GC) (M : HM) (x : Nat) (i : Int32) {fs : List Value} (hx7 : M x = some (.inr (7, fs))) {res res2 : Rs} (hK : KM g l yX5_wrongBy cX5_wrongBy 5 (some .int) 7 3 18 [.ref x, .int i] M res) (hO : hW ["java/lang/IndexOutOfBoundsException"] res res2) (hB : ∀ (v : Value) (M1 : HM), res = .inl (some v, M1) → ∃ n : Int32, v = .int n) : KH g l yL_wrongBy cL_wrongBy 3 (some .int) [(0, 5, 6, 57)] 8 3 18 [.ref x, .int i] M res2 := by
  refine k_methH hlf (by decide) (Nat.le_of_ble_eq_true rfl) fun p e s m below meth c ls hc hr ht hM hS hl => ?_
  have hc : Cx g p l s m [.ref x, .int i].toArray meth c cL_wrongBy 3 RL := hc
  have hx := hc.1
  have hb := hc.2.1
  have hl : lv_has ls 3 [(0, .ref x), (1, .int i)] := hl
  refine lv_aload_n hx hb dL_wrongBy_0 rfl (lv_at hl 0 rfl) ?_
  refine lv_iload_n hx hb dL_wrongBy_1 rfl (lv_at hl 1 rfl) ?_
  refine k_goV hc (As := [.int i]) (rest := []) cw_L_73 rfl dL_wrongBy_2 hK hx7 hM hS rfl hl.1 ⟨Nat.le_of_ble_eq_true rfl, Nat.le_of_ble_eq_true rfl⟩ ⟨Nat.le_of_ble_eq_true rfl, Nat.le_of_ble_eq_true rfl⟩ (Nat.le_of_ble_eq_true rfl) (fun v M1 H locs hres hM hS => ?_) (fun E M1 H locs q9 ce hres hM hS hcell hcv hcl => ?_)
  · rcases hO with ⟨w, M2, h1, h3⟩ | ⟨k, E, M2, h0, h1, h3⟩
    · rw [hres] at h1
      cases h1
      obtain ⟨n, rfl⟩ := hB _ _ hres
      exact k_iret hc hr dL_wrongBy_5 hM hS (Nat.le_of_ble_eq_true rfl) (Nat.le_of_ble_eq_true rfl) h3
    · rw [hres] at h1
      cases h1
  · rcases hO with ⟨w, M2, h1, h3⟩ | ⟨k, E2, M2, h0, h1, h3⟩
    · rw [hres] at h1
      cases h1
    · rw [hres] at h1
      cases h1
      obtain ⟨rfl, rfl⟩ := es1 h0
      refine k_catch hc (E := "java/lang/IndexOutOfBoundsException") (by decide +kernel) [] ⟨0, 5, 6, 57⟩ [] ht (fun z hz => by cases hz) (by decide) (by decide) ql_L_57 hcell hcv hcl ?_
      refine lv_astore_n (lv' := [(2, .ref q9), (0, .ref x), (1, .int i)]) hx hb dL_wrongBy_6 rfl hl (by decide) rfl (fun ls hl => ?_)
      refine lv_sipush (v := (-1001)) hx hb dL_wrongBy_7 (by decide) ?_
      exact k_iret hc hr dL_wrongBy_10 hM hS (Nat.le_of_ble_eq_true rfl) (Nat.le_of_ble_eq_true rfl) h3
def v_wrongBy (cs : CS) (i : Int32) : Int32 := if hasSh (cs 0) i then (wbF (cs 0) i) else (-1001)
theorem h_wrongBy (l : Launch) (hlf : l.stackTraces = false) (g : GC) (M : HM) (x : Nat) (cs : CS) (i : Int32) (hW : ClsAt g M x cs) : KH g l yL_wrongBy cL_wrongBy 3 (some .int) [(0, 5, 6, 57)] 8 3 18 [.ref x, .int i] M (.inl (some (.int (v_wrongBy cs i)), M)) :=
  c_L_wrongBy l hlf g M x i hW.o (c_X5_wrongBy l hlf g M x cs i hW) (hW_q (fun _ => hW_ok) (fun _ => (hW_x0 rfl))) (fun v M1 h => by (repeat' split at h) <;> first | (cases h; exact ⟨_, rfl⟩) | cases h)
set_option maxHeartbeats 4000000 in
set_option maxRecDepth 100000 in
theorem c_L_line (l : Launch) (hlf : l.stackTraces = false) (g : GC) (M : HM) (x : Nat) (i : Int32) {fs : List Value} (hx7 : M x = some (.inr (7, fs))) {res res2 : Rs} (hK : KM g l yX5_line cX5_line 4 (some .int) 7 3 18 [.ref x, .int i] M res) (hO : hW ["java/lang/IndexOutOfBoundsException"] res res2) (hB : ∀ (v : Value) (M1 : HM), res = .inl (some v, M1) → ∃ n : Int32, v = .int n) : KH g l yL_line cL_line 3 (some .int) [(0, 5, 6, 57)] 8 3 18 [.ref x, .int i] M res2 := by
  refine k_methH hlf (by decide) (Nat.le_of_ble_eq_true rfl) fun p e s m below meth c ls hc hr ht hM hS hl => ?_
  have hc : Cx g p l s m [.ref x, .int i].toArray meth c cL_line 3 RL := hc
  have hx := hc.1
  have hb := hc.2.1
  have hl : lv_has ls 3 [(0, .ref x), (1, .int i)] := hl
  refine lv_aload_n hx hb dL_line_0 rfl (lv_at hl 0 rfl) ?_
  refine lv_iload_n hx hb dL_line_1 rfl (lv_at hl 1 rfl) ?_
  refine k_goV hc (As := [.int i]) (rest := []) cw_L_113 rfl dL_line_2 hK hx7 hM hS rfl hl.1 ⟨Nat.le_of_ble_eq_true rfl, Nat.le_of_ble_eq_true rfl⟩ ⟨Nat.le_of_ble_eq_true rfl, Nat.le_of_ble_eq_true rfl⟩ (Nat.le_of_ble_eq_true rfl) (fun v M1 H locs hres hM hS => ?_) (fun E M1 H locs q9 ce hres hM hS hcell hcv hcl => ?_)
  · rcases hO with ⟨w, M2, h1, h3⟩ | ⟨k, E, M2, h0, h1, h3⟩
    · rw [hres] at h1
      cases h1
      obtain ⟨n, rfl⟩ := hB _ _ hres
      exact k_iret hc hr dL_line_5 hM hS (Nat.le_of_ble_eq_true rfl) (Nat.le_of_ble_eq_true rfl) h3
    · rw [hres] at h1
      cases h1
  · rcases hO with ⟨w, M2, h1, h3⟩ | ⟨k, E2, M2, h0, h1, h3⟩
    · rw [hres] at h1
      cases h1
    · rw [hres] at h1
      cases h1
      obtain ⟨rfl, rfl⟩ := es1 h0
      refine k_catch hc (E := "java/lang/IndexOutOfBoundsException") (by decide +kernel) [] ⟨0, 5, 6, 57⟩ [] ht (fun z hz => by cases hz) (by decide) (by decide) ql_L_57 hcell hcv hcl ?_
      refine lv_astore_n (lv' := [(2, .ref q9), (0, .ref x), (1, .int i)]) hx hb dL_line_6 rfl hl (by decide) rfl (fun ls hl => ?_)
      refine lv_sipush (v := (-1001)) hx hb dL_line_7 (by decide) ?_
      exact k_iret hc hr dL_line_10 hM hS (Nat.le_of_ble_eq_true rfl) (Nat.le_of_ble_eq_true rfl) h3
def v_line (cs : CS) (i : Int32) : Int32 := if hasSh (cs 0) i then (li2 cs i 11 3 4) else (-1001)
def s_line (cs : CS) (i : Int32) : CS := if hasSh (cs 0) i then (li2 cs i) else cs
theorem h_line (l : Launch) (hlf : l.stackTraces = false) (g : GC) (M : HM) (x : Nat) (cs : CS) (i : Int32) (hW : ClsAt g M x cs) : KH g l yL_line cL_line 3 (some .int) [(0, 5, 6, 57)] 8 3 18 [.ref x, .int i] M (.inl (some (.int (v_line cs i)), putC g M x (s_line cs i))) :=
  c_L_line l hlf g M x i hW.o (c_X5_line l hlf g M x cs i hW) (hW_s (fun _ => hW_ok) (fun _ => (by rw [putC_same hW]; exact (hW_x0 rfl)))) (fun v M1 h => by (repeat' split at h) <;> first | (cases h; exact ⟨_, rfl⟩) | cases h)
set_option maxHeartbeats 4000000 in
set_option maxRecDepth 100000 in
theorem c_L_character (l : Launch) (hlf : l.stackTraces = false) (g : GC) (M : HM) (x : Nat) (i : Int32) {fs : List Value} (hx7 : M x = some (.inr (7, fs))) {res res2 : Rs} (hK : KM g l yX5_character cX5_character 2 (some .char) 6 3 18 [.ref x, .int i] M res) (hO : hW ["java/lang/IndexOutOfBoundsException"] res res2) (hB : ∀ (v : Value) (M1 : HM), res = .inl (some v, M1) → ∃ n : Int32, v = .int n) : KH g l yL_character cL_character 3 (some .int) [(0, 5, 6, 57)] 7 3 18 [.ref x, .int i] M res2 := by
  refine k_methH hlf (by decide) (Nat.le_of_ble_eq_true rfl) fun p e s m below meth c ls hc hr ht hM hS hl => ?_
  have hc : Cx g p l s m [.ref x, .int i].toArray meth c cL_character 3 RL := hc
  have hx := hc.1
  have hb := hc.2.1
  have hl : lv_has ls 3 [(0, .ref x), (1, .int i)] := hl
  refine lv_aload_n hx hb dL_character_0 rfl (lv_at hl 0 rfl) ?_
  refine lv_iload_n hx hb dL_character_1 rfl (lv_at hl 1 rfl) ?_
  refine k_goV hc (As := [.int i]) (rest := []) cw_L_116 rfl dL_character_2 hK hx7 hM hS rfl hl.1 ⟨Nat.le_of_ble_eq_true rfl, Nat.le_of_ble_eq_true rfl⟩ ⟨Nat.le_of_ble_eq_true rfl, Nat.le_of_ble_eq_true rfl⟩ (Nat.le_of_ble_eq_true rfl) (fun v M1 H locs hres hM hS => ?_) (fun E M1 H locs q9 ce hres hM hS hcell hcv hcl => ?_)
  · rcases hO with ⟨w, M2, h1, h3⟩ | ⟨k, E, M2, h0, h1, h3⟩
    · rw [hres] at h1
      cases h1
      obtain ⟨n, rfl⟩ := hB _ _ hres
      exact k_iret hc hr dL_character_5 hM hS (Nat.le_of_ble_eq_true rfl) (Nat.le_of_ble_eq_true rfl) h3
    · rw [hres] at h1
      cases h1
  · rcases hO with ⟨w, M2, h1, h3⟩ | ⟨k, E2, M2, h0, h1, h3⟩
    · rw [hres] at h1
      cases h1
    · rw [hres] at h1
      cases h1
      obtain ⟨rfl, rfl⟩ := es1 h0
      refine k_catch hc (E := "java/lang/IndexOutOfBoundsException") (by decide +kernel) [] ⟨0, 5, 6, 57⟩ [] ht (fun z hz => by cases hz) (by decide) (by decide) ql_L_57 hcell hcv hcl ?_
      refine lv_astore_n (lv' := [(2, .ref q9), (0, .ref x), (1, .int i)]) hx hb dL_character_6 rfl hl (by decide) rfl (fun ls hl => ?_)
      refine lv_sipush (v := (-1001)) hx hb dL_character_7 (by decide) ?_
      exact k_iret hc hr dL_character_10 hM hS (Nat.le_of_ble_eq_true rfl) (Nat.le_of_ble_eq_true rfl) h3
def v_character (cs : CS) (i : Int32) : Int32 := if ¬ i < 0 ∧ i < cs 11 3 4 then (cs 11 2 (i).toNatClampNeg) else (-1001)
theorem h_character (l : Launch) (hlf : l.stackTraces = false) (g : GC) (M : HM) (x : Nat) (cs : CS) (i : Int32) (hW : ClsAt g M x cs) (ht : lsOk cs) (h9 : cs 11 3 4 ≤ nI 79) : KH g l yL_character cL_character 3 (some .int) [(0, 5, 6, 57)] 7 3 18 [.ref x, .int i] M (.inl (some (.int (v_character cs i)), M)) :=
  c_L_character l hlf g M x i hW.o (c_X5_character l hlf g M x cs i hW ht h9) (hW_q (fun _ => hW_ok) (fun _ => (hW_x0 rfl))) (fun v M1 h => by (repeat' split at h) <;> first | (cases h; exact ⟨_, rfl⟩) | cases h)
set_option maxHeartbeats 4000000 in
set_option maxRecDepth 100000 in
theorem c_L_heatIn (l : Launch) (hlf : l.stackTraces = false) (g : GC) (M : HM) (x : Nat) (i : Int32) {fs : List Value} (hx7 : M x = some (.inr (7, fs))) {res res2 : Rs} (hK : KM g l yX5_heatIn cX5_heatIn 2 (some .int) 6 3 18 [.ref x, .int i] M res) (hO : hW ["java/lang/IllegalArgumentException"] res res2) (hB : ∀ (v : Value) (M1 : HM), res = .inl (some v, M1) → ∃ n : Int32, v = .int n) : KH g l yL_heatIn cL_heatIn 3 (some .int) [(0, 5, 6, 66)] 7 3 18 [.ref x, .int i] M res2 := by
  refine k_methH hlf (by decide) (Nat.le_of_ble_eq_true rfl) fun p e s m below meth c ls hc hr ht hM hS hl => ?_
  have hc : Cx g p l s m [.ref x, .int i].toArray meth c cL_heatIn 3 RL := hc
  have hx := hc.1
  have hb := hc.2.1
  have hl : lv_has ls 3 [(0, .ref x), (1, .int i)] := hl
  refine lv_aload_n hx hb dL_heatIn_0 rfl (lv_at hl 0 rfl) ?_
  refine lv_iload_n hx hb dL_heatIn_1 rfl (lv_at hl 1 rfl) ?_
  refine k_goV hc (As := [.int i]) (rest := []) cw_L_92 rfl dL_heatIn_2 hK hx7 hM hS rfl hl.1 ⟨Nat.le_of_ble_eq_true rfl, Nat.le_of_ble_eq_true rfl⟩ ⟨Nat.le_of_ble_eq_true rfl, Nat.le_of_ble_eq_true rfl⟩ (Nat.le_of_ble_eq_true rfl) (fun v M1 H locs hres hM hS => ?_) (fun E M1 H locs q9 ce hres hM hS hcell hcv hcl => ?_)
  · rcases hO with ⟨w, M2, h1, h3⟩ | ⟨k, E, M2, h0, h1, h3⟩
    · rw [hres] at h1
      cases h1
      obtain ⟨n, rfl⟩ := hB _ _ hres
      exact k_iret hc hr dL_heatIn_5 hM hS (Nat.le_of_ble_eq_true rfl) (Nat.le_of_ble_eq_true rfl) h3
    · rw [hres] at h1
      cases h1
  · rcases hO with ⟨w, M2, h1, h3⟩ | ⟨k, E2, M2, h0, h1, h3⟩
    · rw [hres] at h1
      cases h1
    · rw [hres] at h1
      cases h1
      obtain ⟨rfl, rfl⟩ := es1 h0
      refine k_catch hc (E := "java/lang/IllegalArgumentException") (by decide +kernel) [] ⟨0, 5, 6, 66⟩ [] ht (fun z hz => by cases hz) (by decide) (by decide) ql_L_66 hcell hcv hcl ?_
      refine lv_astore_n (lv' := [(2, .ref q9), (0, .ref x), (1, .int i)]) hx hb dL_heatIn_6 rfl hl (by decide) rfl (fun ls hl => ?_)
      refine lv_sipush (v := (-1001)) hx hb dL_heatIn_7 (by decide) ?_
      exact k_iret hc hr dL_heatIn_10 hM hS (Nat.le_of_ble_eq_true rfl) (Nat.le_of_ble_eq_true rfl) h3
def v_heatIn (cs : CS) (i : Int32) : Int32 := if ¬ i < 0 ∧ i < 48 then (heatI (cs 0 9 2) (cs 0 9 1 + i)) else (-1001)
theorem h_heatIn (l : Launch) (hlf : l.stackTraces = false) (g : GC) (M : HM) (x : Nat) (cs : CS) (i : Int32) (hW : ClsAt g M x cs) : KH g l yL_heatIn cL_heatIn 3 (some .int) [(0, 5, 6, 66)] 7 3 18 [.ref x, .int i] M (.inl (some (.int (v_heatIn cs i)), M)) :=
  c_L_heatIn l hlf g M x i hW.o (c_X5_heatIn l hlf g M x cs i hW) (hW_q (fun _ => hW_ok) (fun _ => (hW_x0 rfl))) (fun v M1 h => by (repeat' split at h) <;> first | (cases h; exact ⟨_, rfl⟩) | cases h)
set_option maxHeartbeats 4000000 in
set_option maxRecDepth 100000 in
theorem c_L_erase (l : Launch) (hlf : l.stackTraces = false) (g : GC) (M : HM) (x : Nat) (i j : Int32) {fs : List Value} (hx7 : M x = some (.inr (7, fs))) {res res2 : Rs} (hK : KM g l yX5_erase cX5_erase 3 (some .int) 7 1 6 [.ref x, .int i, .int j] M res) (hO : hW ["java/lang/UnsupportedOperationException"] res res2) (hB : ∀ (v : Value) (M1 : HM), res = .inl (some v, M1) → ∃ n : Int32, v = .int n) : KH g l yL_erase cL_erase 4 (some .int) [(0, 6, 7, 13)] 8 1 6 [.ref x, .int i, .int j] M res2 := by
  refine k_methH hlf (by decide) (Nat.le_of_ble_eq_true rfl) fun p e s m below meth c ls hc hr ht hM hS hl => ?_
  have hc : Cx g p l s m [.ref x, .int i, .int j].toArray meth c cL_erase 4 RL := hc
  have hx := hc.1
  have hb := hc.2.1
  have hl : lv_has ls 4 [(0, .ref x), (1, .int i), (2, .int j)] := hl
  refine lv_aload_n hx hb dL_erase_0 rfl (lv_at hl 0 rfl) ?_
  refine lv_iload_n hx hb dL_erase_1 rfl (lv_at hl 1 rfl) ?_
  refine lv_iload_n hx hb dL_erase_2 rfl (lv_at hl 2 rfl) ?_
  refine k_goV hc (As := [.int i, .int j]) (rest := []) cw_L_30 rfl dL_erase_3 hK hx7 hM hS rfl hl.1 ⟨Nat.le_of_ble_eq_true rfl, Nat.le_of_ble_eq_true rfl⟩ ⟨Nat.le_of_ble_eq_true rfl, Nat.le_of_ble_eq_true rfl⟩ (Nat.le_of_ble_eq_true rfl) (fun v M1 H locs hres hM hS => ?_) (fun E M1 H locs q9 ce hres hM hS hcell hcv hcl => ?_)
  · rcases hO with ⟨w, M2, h1, h3⟩ | ⟨k, E, M2, h0, h1, h3⟩
    · rw [hres] at h1
      cases h1
      obtain ⟨n, rfl⟩ := hB _ _ hres
      exact k_iret hc hr dL_erase_6 hM hS (Nat.le_of_ble_eq_true rfl) (Nat.le_of_ble_eq_true rfl) h3
    · rw [hres] at h1
      cases h1
  · rcases hO with ⟨w, M2, h1, h3⟩ | ⟨k, E2, M2, h0, h1, h3⟩
    · rw [hres] at h1
      cases h1
    · rw [hres] at h1
      cases h1
      obtain ⟨rfl, rfl⟩ := es1 h0
      refine k_catch hc (E := "java/lang/UnsupportedOperationException") (by decide +kernel) [] ⟨0, 6, 7, 13⟩ [] ht (fun z hz => by cases hz) (by decide) (by decide) ql_L_13 hcell hcv hcl ?_
      refine lv_astore_n (lv' := [(3, .ref q9), (0, .ref x), (1, .int i), (2, .int j)]) hx hb dL_erase_7 rfl hl (by decide) rfl (fun ls hl => ?_)
      refine lv_sipush (v := (-1001)) hx hb dL_erase_8 (by decide) ?_
      exact k_iret hc hr dL_erase_11 hM hS (Nat.le_of_ble_eq_true rfl) (Nat.le_of_ble_eq_true rfl) h3
def v_erase (cs : CS) (i : Int32) (j : Int32) : Int32 := if ¬ rvC (erO (cs 0) i j) = -1 then (rvC (erO (cs 0) i j)) else (-1001)
def s_erase (cs : CS) (i : Int32) (j : Int32) : CS := if ¬ rvC (erO (cs 0) i j) = -1 then (kpS (rsC (bgS cs) (erO (cs 0) i j))) else (rsC (bgS cs) (erO (cs 0) i j))
theorem h_erase (l : Launch) (hlf : l.stackTraces = false) (g : GC) (M : HM) (x : Nat) (cs : CS) (i : Int32) (j : Int32) (hW : ClsAt g M x cs) (hn : nxOk cs) : KH g l yL_erase cL_erase 4 (some .int) [(0, 6, 7, 13)] 8 1 6 [.ref x, .int i, .int j] M (.inl (some (.int (v_erase cs i j)), putC g M x (s_erase cs i j))) :=
  c_L_erase l hlf g M x i j hW.o (c_X5_erase l hlf g M x cs i j hW hn) (hW_s (fun _ => hW_ok) (fun _ => (hW_x0 rfl))) (fun v M1 h => by (repeat' split at h) <;> first | (cases h; exact ⟨_, rfl⟩) | cases h)
