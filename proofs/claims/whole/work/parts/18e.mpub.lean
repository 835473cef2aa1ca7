/-! the reference's public changes -/
theorem unOk_of {a b : FL} (h : unOk a) (e : b 7 3 = a 7 3) : unOk b := by
  unfold unOk
  rw [e]
  exact h
theorem trM_0 {md : FL} : trM md 0 = md 0 := rfl
theorem cnt_ok {x n : Int32} (h : cOk x n) (ne : ¬ x = n) : ¬ x < 0 ∧ x < n := ⟨h.1, Int32.lt_of_le_of_ne h.2 ne⟩
theorem inP0 {i : Int32} (h : okP i) : vp_in (19 + 2 * i) 81 := by
  have h2 := inP h (w := 0) (by decide)
  rwa [show 19 + 2 * i + 0 = 19 + 2 * i from Int32.add_zero _] at h2
theorem okS_k {k : Nat} (h : k < 10) : okS (nI k) := ⟨nI_pos (by omega), nI_lt (b := 10) h (by decide)⟩
theorem okW_k {k : Nat} (h : k < 4) : okW (nI k) := ⟨nI_pos (by omega), nI_lt (b := 4) h (by decide)⟩
theorem nI_nm1 {k : Nat} (h : k < 2 ^ 31) : ¬ nI k = -1 := fun e => by
  have := nI_toInt h
  rw [e] at this
  have e2 : (-1 : Int32).toInt = -1 := rfl
  omega

set_option maxHeartbeats 4000000 in
set_option maxRecDepth 100000 in
theorem c_X6_sight (l : Launch) (hlf : l.stackTraces = false) (g : GC) (M : HM) (q : Nat) (md : FL) (v : Int32) (w : Int32) (u : Int32) (hW : MdAt g M q md) (hI : mOk (md 0)) (hu : unOk md) (hL : leOk (md 0)) : KM g l yX6_sight cX6_sight 4 (some .int) 8 0 0 [.ref q, .int v, .int w, .int u] M (.inl (some (.int (seV (sgM (md 0) v w u))), (putD g M q (seE md (sgM (md 0) v w u))))) := by
  refine k_meth hlf (by decide) (Nat.le_of_ble_eq_true rfl) fun p e s m below meth c ls hc hr hnx hM hS hl => ?_
  have hc : Cx g p l s m [.ref q, .int v, .int w, .int u].toArray meth c cX6_sight 4 RX6 := hc
  have hx := hc.1
  have hb := hc.2.1
  have hl : lv_has ls 4 [(0, .ref q), (1, .int v), (2, .int w), (3, .int u)] := hl
  refine lv_aload_n hx hb dX6_sight_0 rfl (lv_at hl 0 rfl) ?_
  refine k_V0 hc [] cw_X6_77 rfl dX6_sight_1 (c_X6_tries l hlf g _ q md hW) hW.o hM hS hl.1 rfl rfl ⟨Nat.le_of_ble_eq_true rfl, Nat.le_of_ble_eq_true rfl⟩ ⟨Nat.le_of_ble_eq_true rfl, Nat.le_of_ble_eq_true rfl⟩ (Nat.le_of_ble_eq_true rfl) (fun H locs hM hS => ?_)
  have hW := MdAt.put (g := g) (M := M) (m := q) (md := (trM md))
  refine lv_aload_n hx hb dX6_sight_4 rfl (lv_at hl 0 rfl) ?_
  refine lv_aload_n hx hb dX6_sight_5 rfl (lv_at hl 0 rfl) ?_
  refine lv_iload_n hx hb dX6_sight_6 rfl (lv_at hl 1 rfl) ?_
  refine lv_iload_n hx hb dX6_sight_7 rfl (lv_at hl 2 rfl) ?_
  refine lv_iload_n hx hb dX6_sight_8 rfl (lv_at hl 3 rfl) ?_
  refine k_V1 hc [.int v, .int w, .int u] cw_X6_122 rfl dX6_sight_9 (c_X6_sights l hlf g _ q (trM md) v w u hW (by first | assumption | exact hI) (by first | assumption | exact hL)) hW.o hM hS hl.1 rfl rfl ⟨Nat.le_of_ble_eq_true rfl, Nat.le_of_ble_eq_true rfl⟩ ⟨Nat.le_of_ble_eq_true rfl, Nat.le_of_ble_eq_true rfl⟩ (Nat.le_of_ble_eq_true rfl) (fun H locs hM hS => ?_)
  have hM := hR.eq hM putD_putD
  have hW := MdAt.put (g := g) (M := M) (m := q) (md := (rsM (trM md) (sgM ((trM md) 0) v w u)))
  refine k_V1 hc [.int (bM (sgM ((trM md) 0) v w u))] cw_X6_84 rfl dX6_sight_12 (c_X6_ends l hlf g _ q (rsM (trM md) (sgM ((trM md) 0) v w u)) (bM (sgM ((trM md) 0) v w u)) hW (unOk_of hu (rsM_un.trans rfl))) hW.o hM hS hl.1 rfl rfl ⟨Nat.le_of_ble_eq_true rfl, Nat.le_of_ble_eq_true rfl⟩ ⟨Nat.le_of_ble_eq_true rfl, Nat.le_of_ble_eq_true rfl⟩ (Nat.le_of_ble_eq_true rfl) (fun H locs hM hS => ?_)
  have hM := hR.eq hM putD_putD
  have hW := MdAt.put (g := g) (M := M) (m := q) (md := (if (bM (sgM ((trM md) 0) v w u)) = 0 then up2 (rsM (trM md) (sgM ((trM md) 0) v w u)) 7 19 1 else kpM (rsM (trM md) (sgM ((trM md) 0) v w u))))
  exact k_iret hc hr dX6_sight_15 hM hS (Nat.le_of_ble_eq_true rfl) (Nat.le_of_ble_eq_true rfl) (by rw [en_V, en_E]; rfl)
set_option maxHeartbeats 4000000 in
set_option maxRecDepth 100000 in
theorem c_X6_erase (l : Launch) (hlf : l.stackTraces = false) (g : GC) (M : HM) (q : Nat) (md : FL) (v : Int32) (w : Int32) (hW : MdAt g M q md) (hI : mOk (md 0)) (hu : unOk md) : KM g l yX6_erase cX6_erase 3 (some .int) 4 0 0 [.ref q, .int v, .int w] M (.inl (some (.int (seV (erM (md 0) v w))), (putD g M q (seE md (erM (md 0) v w))))) := by
  refine k_meth hlf (by decide) (Nat.le_of_ble_eq_true rfl) fun p e s m below meth c ls hc hr hnx hM hS hl => ?_
  have hc : Cx g p l s m [.ref q, .int v, .int w].toArray meth c cX6_erase 3 RX6 := hc
  have hx := hc.1
  have hb := hc.2.1
  have hl : lv_has ls 3 [(0, .ref q), (1, .int v), (2, .int w)] := hl
  refine lv_aload_n hx hb dX6_erase_0 rfl (lv_at hl 0 rfl) ?_
  refine k_V0 hc [] cw_X6_77 rfl dX6_erase_1 (c_X6_tries l hlf g _ q md hW) hW.o hM hS hl.1 rfl rfl ⟨Nat.le_of_ble_eq_true rfl, Nat.le_of_ble_eq_true rfl⟩ ⟨Nat.le_of_ble_eq_true rfl, Nat.le_of_ble_eq_true rfl⟩ (Nat.le_of_ble_eq_true rfl) (fun H locs hM hS => ?_)
  have hW := MdAt.put (g := g) (M := M) (m := q) (md := (trM md))
  refine lv_aload_n hx hb dX6_erase_4 rfl (lv_at hl 0 rfl) ?_
  refine lv_aload_n hx hb dX6_erase_5 rfl (lv_at hl 0 rfl) ?_
  refine lv_iload_n hx hb dX6_erase_6 rfl (lv_at hl 1 rfl) ?_
  refine lv_iload_n hx hb dX6_erase_7 rfl (lv_at hl 2 rfl) ?_
  refine k_V1 hc [.int v, .int w] cw_X6_128 rfl dX6_erase_8 (c_X6_erases l hlf g _ q (trM md) v w hW (by first | assumption | exact hI)) hW.o hM hS hl.1 rfl rfl ⟨Nat.le_of_ble_eq_true rfl, Nat.le_of_ble_eq_true rfl⟩ ⟨Nat.le_of_ble_eq_true rfl, Nat.le_of_ble_eq_true rfl⟩ (Nat.le_of_ble_eq_true rfl) (fun H locs hM hS => ?_)
  have hM := hR.eq hM putD_putD
  have hW := MdAt.put (g := g) (M := M) (m := q) (md := (rsM (trM md) (erM ((trM md) 0) v w)))
  refine k_V1 hc [.int (bM (erM ((trM md) 0) v w))] cw_X6_84 rfl dX6_erase_11 (c_X6_ends l hlf g _ q (rsM (trM md) (erM ((trM md) 0) v w)) (bM (erM ((trM md) 0) v w)) hW (unOk_of hu (rsM_un.trans rfl))) hW.o hM hS hl.1 rfl rfl ⟨Nat.le_of_ble_eq_true rfl, Nat.le_of_ble_eq_true rfl⟩ ⟨Nat.le_of_ble_eq_true rfl, Nat.le_of_ble_eq_true rfl⟩ (Nat.le_of_ble_eq_true rfl) (fun H locs hM hS => ?_)
  have hM := hR.eq hM putD_putD
  have hW := MdAt.put (g := g) (M := M) (m := q) (md := (if (bM (erM ((trM md) 0) v w)) = 0 then up2 (rsM (trM md) (erM ((trM md) 0) v w)) 7 19 1 else kpM (rsM (trM md) (erM ((trM md) 0) v w))))
  exact k_iret hc hr dX6_erase_14 hM hS (Nat.le_of_ble_eq_true rfl) (Nat.le_of_ble_eq_true rfl) (by rw [en_V, en_E]; rfl)
set_option maxHeartbeats 4000000 in
set_option maxRecDepth 100000 in
theorem c_X6_bell (l : Launch) (hlf : l.stackTraces = false) (g : GC) (M : HM) (q : Nat) (md : FL) (v : Int32) (hW : MdAt g M q md) (hI : mOk (md 0)) (hu : unOk md) : KM g l yX6_bell cX6_bell 2 (some .int) 7 0 0 [.ref q, .int v] M (.inl (some (.int (seV (riM (md 0) v))), (putD g M q (seE md (riM (md 0) v))))) := by
  refine k_meth hlf (by decide) (Nat.le_of_ble_eq_true rfl) fun p e s m below meth c ls hc hr hnx hM hS hl => ?_
  have hc : Cx g p l s m [.ref q, .int v].toArray meth c cX6_bell 2 RX6 := hc
  have hx := hc.1
  have hb := hc.2.1
  have hl : lv_has ls 2 [(0, .ref q), (1, .int v)] := hl
  refine lv_aload_n hx hb dX6_bell_0 rfl (lv_at hl 0 rfl) ?_
  refine k_V0 hc [] cw_X6_77 rfl dX6_bell_1 (c_X6_tries l hlf g _ q md hW) hW.o hM hS hl.1 rfl rfl ⟨Nat.le_of_ble_eq_true rfl, Nat.le_of_ble_eq_true rfl⟩ ⟨Nat.le_of_ble_eq_true rfl, Nat.le_of_ble_eq_true rfl⟩ (Nat.le_of_ble_eq_true rfl) (fun H locs hM hS => ?_)
  have hW := MdAt.put (g := g) (M := M) (m := q) (md := (trM md))
  refine lv_aload_n hx hb dX6_bell_4 rfl (lv_at hl 0 rfl) ?_
  refine lv_aload_n hx hb dX6_bell_5 rfl (lv_at hl 0 rfl) ?_
  refine lv_iload_n hx hb dX6_bell_6 rfl (lv_at hl 1 rfl) ?_
  refine k_V1 hc [.int v] cw_X6_138 rfl dX6_bell_7 (c_X6_rings l hlf g _ q (trM md) v hW (by first | assumption | exact hI)) hW.o hM hS hl.1 rfl rfl ⟨Nat.le_of_ble_eq_true rfl, Nat.le_of_ble_eq_true rfl⟩ ⟨Nat.le_of_ble_eq_true rfl, Nat.le_of_ble_eq_true rfl⟩ (Nat.le_of_ble_eq_true rfl) (fun H locs hM hS => ?_)
  have hM := hR.eq hM putD_putD
  have hW := MdAt.put (g := g) (M := M) (m := q) (md := (rsM (trM md) (riM ((trM md) 0) v)))
  refine k_V1 hc [.int (bM (riM ((trM md) 0) v))] cw_X6_84 rfl dX6_bell_10 (c_X6_ends l hlf g _ q (rsM (trM md) (riM ((trM md) 0) v)) (bM (riM ((trM md) 0) v)) hW (unOk_of hu (rsM_un.trans rfl))) hW.o hM hS hl.1 rfl rfl ⟨Nat.le_of_ble_eq_true rfl, Nat.le_of_ble_eq_true rfl⟩ ⟨Nat.le_of_ble_eq_true rfl, Nat.le_of_ble_eq_true rfl⟩ (Nat.le_of_ble_eq_true rfl) (fun H locs hM hS => ?_)
  have hM := hR.eq hM putD_putD
  have hW := MdAt.put (g := g) (M := M) (m := q) (md := (if (bM (riM ((trM md) 0) v)) = 0 then up2 (rsM (trM md) (riM ((trM md) 0) v)) 7 19 1 else kpM (rsM (trM md) (riM ((trM md) 0) v))))
  exact k_iret hc hr dX6_bell_13 hM hS (Nat.le_of_ble_eq_true rfl) (Nat.le_of_ble_eq_true rfl) (by rw [en_V, en_E]; rfl)
set_option maxHeartbeats 4000000 in
set_option maxRecDepth 100000 in
theorem c_X6_tie (l : Launch) (hlf : l.stackTraces = false) (g : GC) (M : HM) (q : Nat) (md : FL) (v : Int32) (hW : MdAt g M q md) (hI : mOk (md 0)) (hu : unOk md) : KM g l yX6_tie cX6_tie 2 (some .int) 6 0 0 [.ref q, .int v] M (.inl (some (.int (seV (tiM (md 0) v))), (putD g M q (seE md (tiM (md 0) v))))) := by
  refine k_meth hlf (by decide) (Nat.le_of_ble_eq_true rfl) fun p e s m below meth c ls hc hr hnx hM hS hl => ?_
  have hc : Cx g p l s m [.ref q, .int v].toArray meth c cX6_tie 2 RX6 := hc
  have hx := hc.1
  have hb := hc.2.1
  have hl : lv_has ls 2 [(0, .ref q), (1, .int v)] := hl
  refine lv_aload_n hx hb dX6_tie_0 rfl (lv_at hl 0 rfl) ?_
  refine k_V0 hc [] cw_X6_77 rfl dX6_tie_1 (c_X6_tries l hlf g _ q md hW) hW.o hM hS hl.1 rfl rfl ⟨Nat.le_of_ble_eq_true rfl, Nat.le_of_ble_eq_true rfl⟩ ⟨Nat.le_of_ble_eq_true rfl, Nat.le_of_ble_eq_true rfl⟩ (Nat.le_of_ble_eq_true rfl) (fun H locs hM hS => ?_)
  have hW := MdAt.put (g := g) (M := M) (m := q) (md := (trM md))
  refine lv_aload_n hx hb dX6_tie_4 rfl (lv_at hl 0 rfl) ?_
  refine lv_aload_n hx hb dX6_tie_5 rfl (lv_at hl 0 rfl) ?_
  refine lv_iload_n hx hb dX6_tie_6 rfl (lv_at hl 1 rfl) ?_
  refine k_V1 hc [.int v] cw_X6_148 rfl dX6_tie_7 (c_X6_ties l hlf g _ q (trM md) v hW (by first | assumption | exact hI)) hW.o hM hS hl.1 rfl rfl ⟨Nat.le_of_ble_eq_true rfl, Nat.le_of_ble_eq_true rfl⟩ ⟨Nat.le_of_ble_eq_true rfl, Nat.le_of_ble_eq_true rfl⟩ (Nat.le_of_ble_eq_true rfl) (fun H locs hM hS => ?_)
  have hM := hR.eq hM putD_putD
  have hW := MdAt.put (g := g) (M := M) (m := q) (md := (rsM (trM md) (tiM ((trM md) 0) v)))
  refine k_V1 hc [.int (bM (tiM ((trM md) 0) v))] cw_X6_84 rfl dX6_tie_10 (c_X6_ends l hlf g _ q (rsM (trM md) (tiM ((trM md) 0) v)) (bM (tiM ((trM md) 0) v)) hW (unOk_of hu (rsM_un.trans rfl))) hW.o hM hS hl.1 rfl rfl ⟨Nat.le_of_ble_eq_true rfl, Nat.le_of_ble_eq_true rfl⟩ ⟨Nat.le_of_ble_eq_true rfl, Nat.le_of_ble_eq_true rfl⟩ (Nat.le_of_ble_eq_true rfl) (fun H locs hM hS => ?_)
  have hM := hR.eq hM putD_putD
  have hW := MdAt.put (g := g) (M := M) (m := q) (md := (if (bM (tiM ((trM md) 0) v)) = 0 then up2 (rsM (trM md) (tiM ((trM md) 0) v)) 7 19 1 else kpM (rsM (trM md) (tiM ((trM md) 0) v))))
  exact k_iret hc hr dX6_tie_13 hM hS (Nat.le_of_ble_eq_true rfl) (Nat.le_of_ble_eq_true rfl) (by rw [en_V, en_E]; rfl)
set_option maxHeartbeats 4000000 in
set_option maxRecDepth 100000 in
theorem c_X6_loose (l : Launch) (hlf : l.stackTraces = false) (g : GC) (M : HM) (q : Nat) (md : FL) (v : Int32) (hW : MdAt g M q md) (hI : mOk (md 0)) (hu : unOk md) : KM g l yX6_loose cX6_loose 2 (some .int) 4 0 0 [.ref q, .int v] M (.inl (some (.int (seV (loM (md 0) v))), (putD g M q (seE md (loM (md 0) v))))) := by
  refine k_meth hlf (by decide) (Nat.le_of_ble_eq_true rfl) fun p e s m below meth c ls hc hr hnx hM hS hl => ?_
  have hc : Cx g p l s m [.ref q, .int v].toArray meth c cX6_loose 2 RX6 := hc
  have hx := hc.1
  have hb := hc.2.1
  have hl : lv_has ls 2 [(0, .ref q), (1, .int v)] := hl
  refine lv_aload_n hx hb dX6_loose_0 rfl (lv_at hl 0 rfl) ?_
  refine k_V0 hc [] cw_X6_77 rfl dX6_loose_1 (c_X6_tries l hlf g _ q md hW) hW.o hM hS hl.1 rfl rfl ⟨Nat.le_of_ble_eq_true rfl, Nat.le_of_ble_eq_true rfl⟩ ⟨Nat.le_of_ble_eq_true rfl, Nat.le_of_ble_eq_true rfl⟩ (Nat.le_of_ble_eq_true rfl) (fun H locs hM hS => ?_)
  have hW := MdAt.put (g := g) (M := M) (m := q) (md := (trM md))
  refine lv_aload_n hx hb dX6_loose_4 rfl (lv_at hl 0 rfl) ?_
  refine lv_aload_n hx hb dX6_loose_5 rfl (lv_at hl 0 rfl) ?_
  refine lv_iload_n hx hb dX6_loose_6 rfl (lv_at hl 1 rfl) ?_
  refine k_V1 hc [.int v] cw_X6_151 rfl dX6_loose_7 (c_X6_looses l hlf g _ q (trM md) v hW (by first | assumption | exact hI)) hW.o hM hS hl.1 rfl rfl ⟨Nat.le_of_ble_eq_true rfl, Nat.le_of_ble_eq_true rfl⟩ ⟨Nat.le_of_ble_eq_true rfl, Nat.le_of_ble_eq_true rfl⟩ (Nat.le_of_ble_eq_true rfl) (fun H locs hM hS => ?_)
  have hM := hR.eq hM putD_putD
  have hW := MdAt.put (g := g) (M := M) (m := q) (md := (rsM (trM md) (loM ((trM md) 0) v)))
  refine k_V1 hc [.int (bM (loM ((trM md) 0) v))] cw_X6_84 rfl dX6_loose_10 (c_X6_ends l hlf g _ q (rsM (trM md) (loM ((trM md) 0) v)) (bM (loM ((trM md) 0) v)) hW (unOk_of hu (rsM_un.trans rfl))) hW.o hM hS hl.1 rfl rfl ⟨Nat.le_of_ble_eq_true rfl, Nat.le_of_ble_eq_true rfl⟩ ⟨Nat.le_of_ble_eq_true rfl, Nat.le_of_ble_eq_true rfl⟩ (Nat.le_of_ble_eq_true rfl) (fun H locs hM hS => ?_)
  have hM := hR.eq hM putD_putD
  have hW := MdAt.put (g := g) (M := M) (m := q) (md := (if (bM (loM ((trM md) 0) v)) = 0 then up2 (rsM (trM md) (loM ((trM md) 0) v)) 7 19 1 else kpM (rsM (trM md) (loM ((trM md) 0) v))))
  exact k_iret hc hr dX6_loose_13 hM hS (Nat.le_of_ble_eq_true rfl) (Nat.le_of_ble_eq_true rfl) (by rw [en_V, en_E]; rfl)
set_option maxHeartbeats 4000000 in
set_option maxRecDepth 100000 in
theorem c_X6_drink (l : Launch) (hlf : l.stackTraces = false) (g : GC) (M : HM) (q : Nat) (md : FL) (v : Int32) (hW : MdAt g M q md) (hI : mOk (md 0)) (hu : unOk md) : KM g l yX6_drink cX6_drink 2 (some .int) 4 0 0 [.ref q, .int v] M (.inl (some (.int (seV (drM (md 0) v))), (putD g M q (seE md (drM (md 0) v))))) := by
  refine k_meth hlf (by decide) (Nat.le_of_ble_eq_true rfl) fun p e s m below meth c ls hc hr hnx hM hS hl => ?_
  have hc : Cx g p l s m [.ref q, .int v].toArray meth c cX6_drink 2 RX6 := hc
  have hx := hc.1
  have hb := hc.2.1
  have hl : lv_has ls 2 [(0, .ref q), (1, .int v)] := hl
  refine lv_aload_n hx hb dX6_drink_0 rfl (lv_at hl 0 rfl) ?_
  refine k_V0 hc [] cw_X6_77 rfl dX6_drink_1 (c_X6_tries l hlf g _ q md hW) hW.o hM hS hl.1 rfl rfl ⟨Nat.le_of_ble_eq_true rfl, Nat.le_of_ble_eq_true rfl⟩ ⟨Nat.le_of_ble_eq_true rfl, Nat.le_of_ble_eq_true rfl⟩ (Nat.le_of_ble_eq_true rfl) (fun H locs hM hS => ?_)
  have hW := MdAt.put (g := g) (M := M) (m := q) (md := (trM md))
  refine lv_aload_n hx hb dX6_drink_4 rfl (lv_at hl 0 rfl) ?_
  refine lv_aload_n hx hb dX6_drink_5 rfl (lv_at hl 0 rfl) ?_
  refine lv_iload_n hx hb dX6_drink_6 rfl (lv_at hl 1 rfl) ?_
  refine k_V1 hc [.int v] cw_X6_154 rfl dX6_drink_7 (c_X6_drinks l hlf g _ q (trM md) v hW (by first | assumption | exact hI)) hW.o hM hS hl.1 rfl rfl ⟨Nat.le_of_ble_eq_true rfl, Nat.le_of_ble_eq_true rfl⟩ ⟨Nat.le_of_ble_eq_true rfl, Nat.le_of_ble_eq_true rfl⟩ (Nat.le_of_ble_eq_true rfl) (fun H locs hM hS => ?_)
  have hM := hR.eq hM putD_putD
  have hW := MdAt.put (g := g) (M := M) (m := q) (md := (rsM (trM md) (drM ((trM md) 0) v)))
  refine k_V1 hc [.int (bM (drM ((trM md) 0) v))] cw_X6_84 rfl dX6_drink_10 (c_X6_ends l hlf g _ q (rsM (trM md) (drM ((trM md) 0) v)) (bM (drM ((trM md) 0) v)) hW (unOk_of hu (rsM_un.trans rfl))) hW.o hM hS hl.1 rfl rfl ⟨Nat.le_of_ble_eq_true rfl, Nat.le_of_ble_eq_true rfl⟩ ⟨Nat.le_of_ble_eq_true rfl, Nat.le_of_ble_eq_true rfl⟩ (Nat.le_of_ble_eq_true rfl) (fun H locs hM hS => ?_)
  have hM := hR.eq hM putD_putD
  have hW := MdAt.put (g := g) (M := M) (m := q) (md := (if (bM (drM ((trM md) 0) v)) = 0 then up2 (rsM (trM md) (drM ((trM md) 0) v)) 7 19 1 else kpM (rsM (trM md) (drM ((trM md) 0) v))))
  exact k_iret hc hr dX6_drink_13 hM hS (Nat.le_of_ble_eq_true rfl) (Nat.le_of_ble_eq_true rfl) (by rw [en_V, en_E]; rfl)
set_option maxHeartbeats 4000000 in
set_option maxRecDepth 100000 in
theorem c_X6_hours (l : Launch) (hlf : l.stackTraces = false) (g : GC) (M : HM) (q : Nat) (md : FL) (v : Int32) (hW : MdAt g M q md) (hI : mOk (md 0)) (hu : unOk md) : KM g l yX6_hours cX6_hours 2 (some .int) 7 0 0 [.ref q, .int v] M (.inl (some (.int (seV (paM (md 0) v))), (putD g M q (seE md (paM (md 0) v))))) := by
  refine k_meth hlf (by decide) (Nat.le_of_ble_eq_true rfl) fun p e s m below meth c ls hc hr hnx hM hS hl => ?_
  have hc : Cx g p l s m [.ref q, .int v].toArray meth c cX6_hours 2 RX6 := hc
  have hx := hc.1
  have hb := hc.2.1
  have hl : lv_has ls 2 [(0, .ref q), (1, .int v)] := hl
  refine lv_aload_n hx hb dX6_hours_0 rfl (lv_at hl 0 rfl) ?_
  refine k_V0 hc [] cw_X6_77 rfl dX6_hours_1 (c_X6_tries l hlf g _ q md hW) hW.o hM hS hl.1 rfl rfl ⟨Nat.le_of_ble_eq_true rfl, Nat.le_of_ble_eq_true rfl⟩ ⟨Nat.le_of_ble_eq_true rfl, Nat.le_of_ble_eq_true rfl⟩ (Nat.le_of_ble_eq_true rfl) (fun H locs hM hS => ?_)
  have hW := MdAt.put (g := g) (M := M) (m := q) (md := (trM md))
  refine lv_aload_n hx hb dX6_hours_4 rfl (lv_at hl 0 rfl) ?_
  refine lv_aload_n hx hb dX6_hours_5 rfl (lv_at hl 0 rfl) ?_
  refine lv_iload_n hx hb dX6_hours_6 rfl (lv_at hl 1 rfl) ?_
  refine k_V1 hc [.int v] cw_X6_157 rfl dX6_hours_7 (c_X6_passes l hlf g _ q (trM md) v hW (by first | assumption | exact hI)) hW.o hM hS hl.1 rfl rfl ⟨Nat.le_of_ble_eq_true rfl, Nat.le_of_ble_eq_true rfl⟩ ⟨Nat.le_of_ble_eq_true rfl, Nat.le_of_ble_eq_true rfl⟩ (Nat.le_of_ble_eq_true rfl) (fun H locs hM hS => ?_)
  have hM := hR.eq hM putD_putD
  have hW := MdAt.put (g := g) (M := M) (m := q) (md := (rsM (trM md) (paM ((trM md) 0) v)))
  refine k_V1 hc [.int (bM (paM ((trM md) 0) v))] cw_X6_84 rfl dX6_hours_10 (c_X6_ends l hlf g _ q (rsM (trM md) (paM ((trM md) 0) v)) (bM (paM ((trM md) 0) v)) hW (unOk_of hu (rsM_un.trans rfl))) hW.o hM hS hl.1 rfl rfl ⟨Nat.le_of_ble_eq_true rfl, Nat.le_of_ble_eq_true rfl⟩ ⟨Nat.le_of_ble_eq_true rfl, Nat.le_of_ble_eq_true rfl⟩ (Nat.le_of_ble_eq_true rfl) (fun H locs hM hS => ?_)
  have hM := hR.eq hM putD_putD
  have hW := MdAt.put (g := g) (M := M) (m := q) (md := (if (bM (paM ((trM md) 0) v)) = 0 then up2 (rsM (trM md) (paM ((trM md) 0) v)) 7 19 1 else kpM (rsM (trM md) (paM ((trM md) 0) v))))
  exact k_iret hc hr dX6_hours_13 hM hS (Nat.le_of_ble_eq_true rfl) (Nat.le_of_ble_eq_true rfl) (by rw [en_V, en_E]; rfl)
set_option maxHeartbeats 4000000 in
set_option maxRecDepth 100000 in
theorem c_X6_stake (l : Launch) (hlf : l.stackTraces = false) (g : GC) (M : HM) (q : Nat) (md : FL) (v : Int32) (hW : MdAt g M q md) (hI : mOk (md 0)) (hu : unOk md) : KM g l yX6_stake cX6_stake 4 (some .int) 3 0 0 [.ref q, .int v] M (.inl (some (.int (seV (stM (md 0) v))), (putD g M q (snE md (stM (md 0) v))))) := by
  refine k_meth hlf (by decide) (Nat.le_of_ble_eq_true rfl) fun p e s m below meth c ls hc hr hnx hM hS hl => ?_
  have hc : Cx g p l s m [.ref q, .int v].toArray meth c cX6_stake 4 RX6 := hc
  have hx := hc.1
  have hb := hc.2.1
  have hl : lv_has ls 4 [(0, .ref q), (1, .int v)] := hl
  refine lv_aload_n hx hb dX6_stake_0 rfl (lv_at hl 0 rfl) ?_
  refine k_V0 hc [] cw_X6_77 rfl dX6_stake_1 (c_X6_tries l hlf g _ q md hW) hW.o hM hS hl.1 rfl rfl ⟨Nat.le_of_ble_eq_true rfl, Nat.le_of_ble_eq_true rfl⟩ ⟨Nat.le_of_ble_eq_true rfl, Nat.le_of_ble_eq_true rfl⟩ (Nat.le_of_ble_eq_true rfl) (fun H locs hM hS => ?_)
  have hW := MdAt.put (g := g) (M := M) (m := q) (md := (trM md))
  refine lv_iload_n hx hb dX6_stake_4 rfl (lv_at hl 1 rfl) ?_
  refine lv_iconst (v := 0) hx hb dX6_stake_5 (by decide) ?_
  refine lv_bipush (v := 99) hx hb dX6_stake_6 (by decide) ?_
  refine k_S1 hc [.int v, .int 0, .int 99] cw_X6_64 dX6_stake_8 (c_X6_in l hlf g _ v 0 99) hM hS hl.1 rfl rfl ⟨Nat.le_of_ble_eq_true rfl, Nat.le_of_ble_eq_true rfl⟩ ⟨Nat.le_of_ble_eq_true rfl, Nat.le_of_ble_eq_true rfl⟩ (Nat.le_of_ble_eq_true rfl) (fun H locs hM hS => ?_)
  refine lv_if_ne (tgt := 25) hx hb dX6_stake_11 (by decide) (fun c_11 => ?_) (fun c_11 => ?_)
  · skip
    have c_11 := bI_ne.mp c_11
    refine lv_aload_n hx hb dX6_stake_25 rfl (lv_at hl 0 rfl) ?_
    refine gt_X6_9 hc dX6_stake_26 hM hW.o rfl ?_
    refine lv_iconst (v := 2) hx hb dX6_stake_29 (by decide) ?_
    refine k_ialdN hc hM (n := 81) (hW.ar 0 (by decide) (by decide) rfl rfl) (X := 2) rfl (by omega) (by decide) dX6_stake_30 ?_
    refine lv_istore_n (lv' := [(2, .int (((trM md) 0) 2)), (0, .ref q), (1, .int v)]) hx hb dX6_stake_31 rfl hl (by decide) rfl (fun ls hl => ?_)
    refine lv_iload_n hx hb dX6_stake_32 rfl (lv_at hl 0 rfl) ?_
    refine lv_bipush (v := 10) hx hb dX6_stake_33 (by decide) ?_
    refine lv_icmp_ne (tgt := 50) hx hb dX6_stake_35 (by decide) (fun c_35 => ?_) (fun c_35 => ?_)
    · skip
      have ok_35 : okS ((trM md) 0 2) := cnt_ok (n := 10) hI.1 c_35
      refine lv_iconst (v := 0) hx hb dX6_stake_50 (by decide) ?_
      refine lv_istore_n (lv' := [(3, .int 0), (2, .int (((trM md) 0) 2)), (0, .ref q), (1, .int v)]) hx hb dX6_stake_51 rfl hl (by decide) rfl (fun ls hl => ?_)
      have lp_52 : ∀ (D k : Nat), (((trM md) 0 2).toNatClampNeg) - k < D → k ≤ ((trM md) 0 2).toNatClampNeg → ((fnd (fun k => decide (mS ((trM md) 0) (nI k) = v)) ((trM md) 0 2).toNatClampNeg 0) = fnd (fun k => decide (mS ((trM md) 0) (nI k) = v)) (((trM md) 0 2).toNatClampNeg - k) k) → ∀ (ls : Array Slot) (H : Heap) (locs : List Loc), hR g (putD g M q (trM md)) H → va_S (gA g) s.heap H locs → lv_has ls 4 [(3, .int (nI k)), (2, .int (((trM md) 0) 2)), (0, .ref q), (1, .int v)] → W p l e (rmOf 3 0 0) s m [.ref q, .int v].toArray below meth c H locs 0 0 (vx_MQ below (KQ g (.inl (some (.int (seV (stM (md 0) v))), (putD g M q (snE md (stM (md 0) v)))))) (KX g (.inl (some (.int (seV (stM (md 0) v))), (putD g M q (snE md (stM (md 0) v)))))) [.ref q, .int v].toArray s 0 0 (gA g)) (F0 m 52 ls []) := by
        intro D
        induction D with
        | zero => intro k hD; exact absurd hD (Nat.not_lt_zero _)
        | succ D ih_52 =>
          intro k hD hk hq ls H locs hM hS hl
          refine lv_iload_n hx hb dX6_stake_52 rfl (lv_at hl 0 rfl) ?_
          refine lv_iload_n hx hb dX6_stake_53 rfl (lv_at hl 1 rfl) ?_
          refine lv_icmp_ge (tgt := 87) hx hb dX6_stake_54 (by decide) (fun c_54 => ?_) (fun c_54 => ?_)
          · skip
            have c_54 := (k_le (by have := k_clamp_lt ((trM md) 0 2); omega)).mp c_54
            have hf : (fnd (fun k => decide (mS ((trM md) 0) (nI k) = v)) ((trM md) 0 2).toNatClampNeg 0) = -1 := hq.trans (fnd_stop c_54)
            refine lv_aload_n hx hb dX6_stake_87 rfl (lv_at hl 2 rfl) ?_
            refine gt_X6_9 hc dX6_stake_88 hM hW.o rfl ?_
            refine lv_iconst (v := 2) hx hb dX6_stake_91 (by decide) ?_
            refine lv_dup2_11 hx hb dX6_stake_92 rfl rfl ?_
            refine k_ialdN hc hM (n := 81) (hW.ar 0 (by decide) (by decide) rfl rfl) (X := 2) rfl (by omega) (by decide) dX6_stake_93 ?_
            refine lv_iconst (v := 1) hx hb dX6_stake_94 (by decide) ?_
            refine lv_iadd hx hb dX6_stake_95 ?_
            refine k_iastN hc hM hS (n := 81) (hW.ar 0 (by decide) (by decide) rfl rfl) (X := 2) rfl (by omega) (by decide) dX6_stake_96 (fun H locs hM hS => ?_)
            have hM := hR.eq hM (putD_ar hW 0 (by decide) (by decide) rfl rfl)
            have hM := hR.eq hM putD_putD
            have hW := MdAt.put (g := g) (M := M) (m := q) (md := (up1 (trM md) 0 (upd ((trM md) 0) 2 ((((trM md) 0) 2) + 1))))
            refine lv_aload_n hx hb dX6_stake_97 rfl (lv_at hl 2 rfl) ?_
            refine gt_X6_9 hc dX6_stake_98 hM hW.o rfl ?_
            refine lv_bipush (v := 9) hx hb dX6_stake_101 (by decide) ?_
            refine lv_iload_n hx hb dX6_stake_103 rfl (lv_at hl 1 rfl) ?_
            refine lv_iadd hx hb dX6_stake_104 ?_
            refine lv_iload_n hx hb dX6_stake_105 rfl (lv_at hl 3 rfl) ?_
            refine k_iast hc hM hS (hW.ar 0 (by decide) (by decide) rfl rfl) (inS (by assumption)) dX6_stake_106 (fun H locs hM hS => ?_)
            have hM := hR.eq hM (putD_ar hW 0 (by decide) (by decide) rfl rfl)
            have hM := hR.eq hM putD_putD
            have hW := MdAt.put (g := g) (M := M) (m := q) (md := (up1 (up1 (trM md) 0 (upd ((trM md) 0) 2 ((((trM md) 0) 2) + 1))) 0 (upd ((up1 (trM md) 0 (upd ((trM md) 0) 2 ((((trM md) 0) 2) + 1))) 0) ((9 + (((trM md) 0) 2)).toNatClampNeg) v)))
            refine lv_aload_n hx hb dX6_stake_107 rfl (lv_at hl 2 rfl) ?_
            refine lv_iload_n hx hb dX6_stake_108 rfl (lv_at hl 1 rfl) ?_
            refine k_V1 hc [.int (((trM md) 0) 2)] cw_X6_57 rfl dX6_stake_109 (c_X6_keeps l hlf g _ q (up1 (up1 (trM md) 0 (upd ((trM md) 0) 2 ((((trM md) 0) 2) + 1))) 0 (upd ((up1 (trM md) 0 (upd ((trM md) 0) 2 ((((trM md) 0) 2) + 1))) 0) ((9 + (((trM md) 0) 2)).toNatClampNeg) v)) (((trM md) 0) 2) hW (by first | assumption | exact hu)) hW.o hM hS hl.1 rfl rfl ⟨Nat.le_of_ble_eq_true rfl, Nat.le_of_ble_eq_true rfl⟩ ⟨Nat.le_of_ble_eq_true rfl, Nat.le_of_ble_eq_true rfl⟩ (Nat.le_of_ble_eq_true rfl) (fun H locs hM hS => ?_)
            have hM := hR.eq hM putD_putD
            have hW := MdAt.put (g := g) (M := M) (m := q) (md := (kpM (up1 (up1 (trM md) 0 (upd ((trM md) 0) 2 ((((trM md) 0) 2) + 1))) 0 (upd ((up1 (trM md) 0 (upd ((trM md) 0) 2 ((((trM md) 0) 2) + 1))) 0) ((9 + (((trM md) 0) 2)).toNatClampNeg) v))))
            exact k_iret hc hr dX6_stake_112 hM hS (Nat.le_of_ble_eq_true rfl) (Nat.le_of_ble_eq_true rfl) (by show (Sum.inl (some (.int (seV (stM ((trM md) 0) v))), putD g M q (snE md (stM ((trM md) 0) v))) : Rs) = _; first | (simp only [stM, stF, eq_true c_11, eq_false c_35, eq_true hf, eq_self, bM_l, bM_r, rsM_l, rsM_r, seV_l, seV_r, snE_l, snE_r, up1_at, up1_up1, up2_up2, not_false_eq_true, not_true_eq_false, and_true, true_and, and_false, false_and, and_self, ↓reduceIte, or_true, true_or, or_self, or_false, false_or]; done) | (simp only [stM, stF, eq_true c_11, eq_false c_35, eq_true hf, eq_self, bM_l, bM_r, rsM_l, rsM_r, seV_l, seV_r, snE_l, snE_r, up1_at, up1_up1, up2_up2, not_false_eq_true, not_true_eq_false, and_true, true_and, and_false, false_and, and_self, ↓reduceIte, or_true, true_or, or_self, or_false, false_or]; rfl))
          · skip
            have c_54 : ¬ ((trM md) 0 2).toNatClampNeg ≤ k := fun h => c_54 ((k_le (by have := k_clamp_lt ((trM md) 0 2); omega)).mpr h)
            have ok_54 : okS (nI k) := kS_ok (f := (trM md) 0) hI c_54
            refine lv_aload_n hx hb dX6_stake_57 rfl (lv_at hl 2 rfl) ?_
            refine gt_X6_9 hc dX6_stake_58 hM hW.o rfl ?_
            refine lv_bipush (v := 9) hx hb dX6_stake_61 (by decide) ?_
            refine lv_iload_n hx hb dX6_stake_63 rfl (lv_at hl 0 rfl) ?_
            refine lv_iadd hx hb dX6_stake_64 ?_
            refine k_iald hc hM (hW.ar 0 (by decide) (by decide) rfl rfl) (inS (by assumption)) dX6_stake_65 ?_
            refine lv_iload_n hx hb dX6_stake_66 rfl (lv_at hl 3 rfl) ?_
            refine lv_icmp_ne (tgt := 81) hx hb dX6_stake_67 (by decide) (fun c_67 => ?_) (fun c_67 => ?_)
            · skip
              refine lv_iinc (v := (nI (k + 1))) (lv' := [(3, .int (nI (k + 1))), (2, .int (((trM md) 0) 2)), (0, .ref q), (1, .int v)]) hx hb dX6_stake_81 hl (k := 0) rfl (k_inc1 _) (by decide) rfl (fun ls hl => ?_)
              refine lv_goto (tgt := 52) hx hb dX6_stake_84 (by decide) ?_
              exact ih_52 (k + 1) (by omega) (by omega) (hq.trans (fnd_next (Nat.not_le.mp c_54) (by simpa using c_67))) ls _ _ hM hS (lv_sub hl [0, 1, 2, 3] rfl)
            · skip
              have hf : (fnd (fun k => decide (mS ((trM md) 0) (nI k) = v)) ((trM md) 0 2).toNatClampNeg 0) = nI k := hq.trans (fnd_hit (Nat.not_le.mp c_54) (by simpa using c_67))
              have hne : ¬ (fnd (fun k => decide (mS ((trM md) 0) (nI k) = v)) ((trM md) 0 2).toNatClampNeg 0) = -1 := by rw [hf]; exact nI_nm1 (by have := k_clamp_lt ((trM md) 0 2); omega)
              have z_3 : (nI k) = (fnd (fun k => decide (mS ((trM md) 0) (nI k) = v)) ((trM md) 0 2).toNatClampNeg 0) := hf.symm
              have hl := lv_chg (lv_sub hl [0, 1, 2, 3] rfl) z_3
              refine lv_aload_n hx hb dX6_stake_70 rfl (lv_at hl 2 rfl) ?_
              refine lv_aload_n hx hb dX6_stake_71 rfl (lv_at hl 2 rfl) ?_
              refine lv_iconst (v := 4) hx hb dX6_stake_72 (by decide) ?_
              refine lv_iload_n hx hb dX6_stake_73 rfl (lv_at hl 0 rfl) ?_
              refine k_V1 hc [.int 4, .int (fnd (fun k => decide (mS ((trM md) 0) (nI k) = v)) ((trM md) 0 2).toNatClampNeg 0)] cw_X6_80 rfl dX6_stake_74 (c_X6_refuses l hlf g _ q (trM md) 4 (fnd (fun k => decide (mS ((trM md) 0) (nI k) = v)) ((trM md) 0 2).toNatClampNeg 0) hW) hW.o hM hS hl.1 rfl rfl ⟨Nat.le_of_ble_eq_true rfl, Nat.le_of_ble_eq_true rfl⟩ ⟨Nat.le_of_ble_eq_true rfl, Nat.le_of_ble_eq_true rfl⟩ (Nat.le_of_ble_eq_true rfl) (fun H locs hM hS => ?_)
              have hM := hR.eq hM putD_putD
              have hW := MdAt.put (g := g) (M := M) (m := q) (md := (rfM (trM md) 4 (fnd (fun k => decide (mS ((trM md) 0) (nI k) = v)) ((trM md) 0 2).toNatClampNeg 0)))
              refine k_V1 hc [.int 0] cw_X6_84 rfl dX6_stake_77 (c_X6_ends l hlf g _ q (rfM (trM md) 4 (fnd (fun k => decide (mS ((trM md) 0) (nI k) = v)) ((trM md) 0 2).toNatClampNeg 0)) 0 hW (by first | assumption | exact hu)) hW.o hM hS hl.1 rfl rfl ⟨Nat.le_of_ble_eq_true rfl, Nat.le_of_ble_eq_true rfl⟩ ⟨Nat.le_of_ble_eq_true rfl, Nat.le_of_ble_eq_true rfl⟩ (Nat.le_of_ble_eq_true rfl) (fun H locs hM hS => ?_)
              have hM := hR.eq hM putD_putD
              have hW := MdAt.put (g := g) (M := M) (m := q) (md := (if 0 = 0 then up2 (rfM (trM md) 4 (fnd (fun k => decide (mS ((trM md) 0) (nI k) = v)) ((trM md) 0 2).toNatClampNeg 0)) 7 19 1 else kpM (rfM (trM md) 4 (fnd (fun k => decide (mS ((trM md) 0) (nI k) = v)) ((trM md) 0 2).toNatClampNeg 0))))
              exact k_iret hc hr dX6_stake_80 hM hS (Nat.le_of_ble_eq_true rfl) (Nat.le_of_ble_eq_true rfl) (by show (Sum.inl (some (.int (seV (stM ((trM md) 0) v))), putD g M q (snE md (stM ((trM md) 0) v))) : Rs) = _; first | (simp only [stM, stF, eq_true c_11, eq_false c_35, eq_false c_54, eq_true c_67, eq_false hne, eq_self, bM_l, bM_r, rsM_l, rsM_r, seV_l, seV_r, snE_l, snE_r, up1_at, up1_up1, up2_up2, not_false_eq_true, not_true_eq_false, and_true, true_and, and_false, false_and, and_self, ↓reduceIte, or_true, true_or, or_self, or_false, false_or]; done) | (simp only [stM, stF, eq_true c_11, eq_false c_35, eq_false c_54, eq_true c_67, eq_false hne, eq_self, bM_l, bM_r, rsM_l, rsM_r, seV_l, seV_r, snE_l, snE_r, up1_at, up1_up1, up2_up2, not_false_eq_true, not_true_eq_false, and_true, true_and, and_false, false_and, and_self, ↓reduceIte, or_true, true_or, or_self, or_false, false_or]; rfl))
      have z_3 : 0 = (nI 0) := rfl
      have hl := lv_chg (lv_sub hl [0, 1, 2, 3] rfl) z_3
      exact lp_52 (((trM md) 0 2).toNatClampNeg + 1) 0 (by omega) (by omega) rfl ls _ _ hM hS (lv_sub hl [0, 1, 2, 3] rfl)
    · skip
      refine lv_aload_n hx hb dX6_stake_38 rfl (lv_at hl 1 rfl) ?_
      refine lv_aload_n hx hb dX6_stake_39 rfl (lv_at hl 1 rfl) ?_
      refine lv_iconst (v := 2) hx hb dX6_stake_40 (by decide) ?_
      refine lv_bipush (v := 10) hx hb dX6_stake_41 (by decide) ?_
      refine k_V1 hc [.int 2, .int 10] cw_X6_80 rfl dX6_stake_43 (c_X6_refuses l hlf g _ q (trM md) 2 10 hW) hW.o hM hS hl.1 rfl rfl ⟨Nat.le_of_ble_eq_true rfl, Nat.le_of_ble_eq_true rfl⟩ ⟨Nat.le_of_ble_eq_true rfl, Nat.le_of_ble_eq_true rfl⟩ (Nat.le_of_ble_eq_true rfl) (fun H locs hM hS => ?_)
      have hM := hR.eq hM putD_putD
      have hW := MdAt.put (g := g) (M := M) (m := q) (md := (rfM (trM md) 2 10))
      refine k_V1 hc [.int 0] cw_X6_84 rfl dX6_stake_46 (c_X6_ends l hlf g _ q (rfM (trM md) 2 10) 0 hW (by first | assumption | exact hu)) hW.o hM hS hl.1 rfl rfl ⟨Nat.le_of_ble_eq_true rfl, Nat.le_of_ble_eq_true rfl⟩ ⟨Nat.le_of_ble_eq_true rfl, Nat.le_of_ble_eq_true rfl⟩ (Nat.le_of_ble_eq_true rfl) (fun H locs hM hS => ?_)
      have hM := hR.eq hM putD_putD
      have hW := MdAt.put (g := g) (M := M) (m := q) (md := (if 0 = 0 then up2 (rfM (trM md) 2 10) 7 19 1 else kpM (rfM (trM md) 2 10)))
      exact k_iret hc hr dX6_stake_49 hM hS (Nat.le_of_ble_eq_true rfl) (Nat.le_of_ble_eq_true rfl) (by show (Sum.inl (some (.int (seV (stM ((trM md) 0) v))), putD g M q (snE md (stM ((trM md) 0) v))) : Rs) = _; first | (simp only [stM, stF, eq_true c_11, eq_true c_35, eq_self, bM_l, bM_r, rsM_l, rsM_r, seV_l, seV_r, snE_l, snE_r, up1_at, up1_up1, up2_up2, not_false_eq_true, not_true_eq_false, and_true, true_and, and_false, false_and, and_self, ↓reduceIte, or_true, true_or, or_self, or_false, false_or]; done) | (simp only [stM, stF, eq_true c_11, eq_true c_35, eq_self, bM_l, bM_r, rsM_l, rsM_r, seV_l, seV_r, snE_l, snE_r, up1_at, up1_up1, up2_up2, not_false_eq_true, not_true_eq_false, and_true, true_and, and_false, false_and, and_self, ↓reduceIte, or_true, true_or, or_self, or_false, false_or]; rfl))
  · skip
    have c_11 := bI_eq.mp c_11
    refine lv_aload_n hx hb dX6_stake_14 rfl (lv_at hl 0 rfl) ?_
    refine lv_aload_n hx hb dX6_stake_15 rfl (lv_at hl 0 rfl) ?_
    refine lv_iconst (v := 1) hx hb dX6_stake_16 (by decide) ?_
    refine lv_iconst (v := 0) hx hb dX6_stake_17 (by decide) ?_
    refine k_V1 hc [.int 1, .int 0] cw_X6_80 rfl dX6_stake_18 (c_X6_refuses l hlf g _ q (trM md) 1 0 hW) hW.o hM hS hl.1 rfl rfl ⟨Nat.le_of_ble_eq_true rfl, Nat.le_of_ble_eq_true rfl⟩ ⟨Nat.le_of_ble_eq_true rfl, Nat.le_of_ble_eq_true rfl⟩ (Nat.le_of_ble_eq_true rfl) (fun H locs hM hS => ?_)
    have hM := hR.eq hM putD_putD
    have hW := MdAt.put (g := g) (M := M) (m := q) (md := (rfM (trM md) 1 0))
    refine k_V1 hc [.int 0] cw_X6_84 rfl dX6_stake_21 (c_X6_ends l hlf g _ q (rfM (trM md) 1 0) 0 hW (by first | assumption | exact hu)) hW.o hM hS hl.1 rfl rfl ⟨Nat.le_of_ble_eq_true rfl, Nat.le_of_ble_eq_true rfl⟩ ⟨Nat.le_of_ble_eq_true rfl, Nat.le_of_ble_eq_true rfl⟩ (Nat.le_of_ble_eq_true rfl) (fun H locs hM hS => ?_)
    have hM := hR.eq hM putD_putD
    have hW := MdAt.put (g := g) (M := M) (m := q) (md := (if 0 = 0 then up2 (rfM (trM md) 1 0) 7 19 1 else kpM (rfM (trM md) 1 0)))
    exact k_iret hc hr dX6_stake_24 hM hS (Nat.le_of_ble_eq_true rfl) (Nat.le_of_ble_eq_true rfl) (by show (Sum.inl (some (.int (seV (stM ((trM md) 0) v))), putD g M q (snE md (stM ((trM md) 0) v))) : Rs) = _; first | (simp only [stM, stF, eq_false c_11, eq_self, bM_l, bM_r, rsM_l, rsM_r, seV_l, seV_r, snE_l, snE_r, up1_at, up1_up1, up2_up2, not_false_eq_true, not_true_eq_false, and_true, true_and, and_false, false_and, and_self, ↓reduceIte, or_true, true_or, or_self, or_false, false_or]; done) | (simp only [stM, stF, eq_false c_11, eq_self, bM_l, bM_r, rsM_l, rsM_r, seV_l, seV_r, snE_l, snE_r, up1_at, up1_up1, up2_up2, not_false_eq_true, not_true_eq_false, and_true, true_and, and_false, false_and, and_self, ↓reduceIte, or_true, true_or, or_self, or_false, false_or]; rfl))
set_option maxHeartbeats 4000000 in
set_option maxRecDepth 100000 in
theorem c_X6_post (l : Launch) (hlf : l.stackTraces = false) (g : GC) (M : HM) (q : Nat) (md : FL) (v : Int32) (w : Int32) (hW : MdAt g M q md) (hI : mOk (md 0)) (hu : unOk md) : KM g l yX6_post cX6_post 4 (some .int) 3 0 0 [.ref q, .int v, .int w] M (.inl (some (.int (seV (poM (md 0) v w))), (putD g M q (snE md (poM (md 0) v w))))) := by
  refine k_meth hlf (by decide) (Nat.le_of_ble_eq_true rfl) fun p e s m below meth c ls hc hr hnx hM hS hl => ?_
  have hc : Cx g p l s m [.ref q, .int v, .int w].toArray meth c cX6_post 4 RX6 := hc
  have hx := hc.1
  have hb := hc.2.1
  have hl : lv_has ls 4 [(0, .ref q), (1, .int v), (2, .int w)] := hl
  refine lv_aload_n hx hb dX6_post_0 rfl (lv_at hl 0 rfl) ?_
  refine k_V0 hc [] cw_X6_77 rfl dX6_post_1 (c_X6_tries l hlf g _ q md hW) hW.o hM hS hl.1 rfl rfl ⟨Nat.le_of_ble_eq_true rfl, Nat.le_of_ble_eq_true rfl⟩ ⟨Nat.le_of_ble_eq_true rfl, Nat.le_of_ble_eq_true rfl⟩ (Nat.le_of_ble_eq_true rfl) (fun H locs hM hS => ?_)
  have hW := MdAt.put (g := g) (M := M) (m := q) (md := (trM md))
  refine lv_iload_n hx hb dX6_post_4 rfl (lv_at hl 1 rfl) ?_
  refine lv_iconst (v := 0) hx hb dX6_post_5 (by decide) ?_
  refine lv_bipush (v := 99) hx hb dX6_post_6 (by decide) ?_
  refine k_S1 hc [.int v, .int 0, .int 99] cw_X6_64 dX6_post_8 (c_X6_in l hlf g _ v 0 99) hM hS hl.1 rfl rfl ⟨Nat.le_of_ble_eq_true rfl, Nat.le_of_ble_eq_true rfl⟩ ⟨Nat.le_of_ble_eq_true rfl, Nat.le_of_ble_eq_true rfl⟩ (Nat.le_of_ble_eq_true rfl) (fun H locs hM hS => ?_)
  refine lv_if_eq (tgt := 24) hx hb dX6_post_11 (by decide) (fun c_11 => ?_) (fun c_11 => ?_)
  · skip
    have c_11 := bI_eq.mp c_11
    refine lv_aload_n hx hb dX6_post_24 rfl (lv_at hl 0 rfl) ?_
    refine lv_aload_n hx hb dX6_post_25 rfl (lv_at hl 0 rfl) ?_
    refine lv_iconst (v := 1) hx hb dX6_post_26 (by decide) ?_
    refine lv_iconst (v := 0) hx hb dX6_post_27 (by decide) ?_
    refine k_V1 hc [.int 1, .int 0] cw_X6_80 rfl dX6_post_28 (c_X6_refuses l hlf g _ q (trM md) 1 0 hW) hW.o hM hS hl.1 rfl rfl ⟨Nat.le_of_ble_eq_true rfl, Nat.le_of_ble_eq_true rfl⟩ ⟨Nat.le_of_ble_eq_true rfl, Nat.le_of_ble_eq_true rfl⟩ (Nat.le_of_ble_eq_true rfl) (fun H locs hM hS => ?_)
    have hM := hR.eq hM putD_putD
    have hW := MdAt.put (g := g) (M := M) (m := q) (md := (rfM (trM md) 1 0))
    refine k_V1 hc [.int 0] cw_X6_84 rfl dX6_post_31 (c_X6_ends l hlf g _ q (rfM (trM md) 1 0) 0 hW (by first | assumption | exact hu)) hW.o hM hS hl.1 rfl rfl ⟨Nat.le_of_ble_eq_true rfl, Nat.le_of_ble_eq_true rfl⟩ ⟨Nat.le_of_ble_eq_true rfl, Nat.le_of_ble_eq_true rfl⟩ (Nat.le_of_ble_eq_true rfl) (fun H locs hM hS => ?_)
    have hM := hR.eq hM putD_putD
    have hW := MdAt.put (g := g) (M := M) (m := q) (md := (if 0 = 0 then up2 (rfM (trM md) 1 0) 7 19 1 else kpM (rfM (trM md) 1 0)))
    exact k_iret hc hr dX6_post_34 hM hS (Nat.le_of_ble_eq_true rfl) (Nat.le_of_ble_eq_true rfl) (by show (Sum.inl (some (.int (seV (poM ((trM md) 0) v w))), putD g M q (snE md (poM ((trM md) 0) v w))) : Rs) = _; first | (simp only [poM, poF, eq_false c_11, eq_self, bM_l, bM_r, rsM_l, rsM_r, seV_l, seV_r, snE_l, snE_r, up1_at, up1_up1, up2_up2, not_false_eq_true, not_true_eq_false, and_true, true_and, and_false, false_and, and_self, ↓reduceIte, or_true, true_or, or_self, or_false, false_or]; done) | (simp only [poM, poF, eq_false c_11, eq_self, bM_l, bM_r, rsM_l, rsM_r, seV_l, seV_r, snE_l, snE_r, up1_at, up1_up1, up2_up2, not_false_eq_true, not_true_eq_false, and_true, true_and, and_false, false_and, and_self, ↓reduceIte, or_true, true_or, or_self, or_false, false_or]; rfl))
  · skip
    have c_11 := bI_ne.mp c_11
    refine lv_iload_n hx hb dX6_post_14 rfl (lv_at hl 2 rfl) ?_
    refine lv_iconst (v := 1) hx hb dX6_post_15 (by decide) ?_
    refine lv_bipush (v := 9) hx hb dX6_post_16 (by decide) ?_
    refine k_S1 hc [.int w, .int 1, .int 9] cw_X6_64 dX6_post_18 (c_X6_in l hlf g _ w 1 9) hM hS hl.1 rfl rfl ⟨Nat.le_of_ble_eq_true rfl, Nat.le_of_ble_eq_true rfl⟩ ⟨Nat.le_of_ble_eq_true rfl, Nat.le_of_ble_eq_true rfl⟩ (Nat.le_of_ble_eq_true rfl) (fun H locs hM hS => ?_)
    refine lv_if_ne (tgt := 35) hx hb dX6_post_21 (by decide) (fun c_21 => ?_) (fun c_21 => ?_)
    · skip
      have c_21 := bI_ne.mp c_21
      refine lv_aload_n hx hb dX6_post_35 rfl (lv_at hl 0 rfl) ?_
      refine gt_X6_9 hc dX6_post_36 hM hW.o rfl ?_
      refine lv_iconst (v := 3) hx hb dX6_post_39 (by decide) ?_
      refine k_ialdN hc hM (n := 81) (hW.ar 0 (by decide) (by decide) rfl rfl) (X := 3) rfl (by omega) (by decide) dX6_post_40 ?_
      refine lv_istore_n (lv' := [(3, .int (((trM md) 0) 3)), (0, .ref q), (1, .int v), (2, .int w)]) hx hb dX6_post_41 rfl hl (by decide) rfl (fun ls hl => ?_)
      refine lv_iload_n hx hb dX6_post_42 rfl (lv_at hl 0 rfl) ?_
      refine lv_iconst (v := 4) hx hb dX6_post_43 (by decide) ?_
      refine lv_icmp_ne (tgt := 58) hx hb dX6_post_44 (by decide) (fun c_44 => ?_) (fun c_44 => ?_)
      · skip
        have ok_44 : okP ((trM md) 0 3) := cnt_ok (n := 4) hI.2.1 c_44
        refine lv_aload_n hx hb dX6_post_58 rfl (lv_at hl 1 rfl) ?_
        refine gt_X6_9 hc dX6_post_59 hM hW.o rfl ?_
        refine lv_iconst (v := 3) hx hb dX6_post_62 (by decide) ?_
        refine lv_dup2_11 hx hb dX6_post_63 rfl rfl ?_
        refine k_ialdN hc hM (n := 81) (hW.ar 0 (by decide) (by decide) rfl rfl) (X := 3) rfl (by omega) (by decide) dX6_post_64 ?_
        refine lv_iconst (v := 1) hx hb dX6_post_65 (by decide) ?_
        refine lv_iadd hx hb dX6_post_66 ?_
        refine k_iastN hc hM hS (n := 81) (hW.ar 0 (by decide) (by decide) rfl rfl) (X := 3) rfl (by omega) (by decide) dX6_post_67 (fun H locs hM hS => ?_)
        have hM := hR.eq hM (putD_ar hW 0 (by decide) (by decide) rfl rfl)
        have hM := hR.eq hM putD_putD
        have hW := MdAt.put (g := g) (M := M) (m := q) (md := (up1 (trM md) 0 (upd ((trM md) 0) 3 ((((trM md) 0) 3) + 1))))
        refine lv_aload_n hx hb dX6_post_68 rfl (lv_at hl 1 rfl) ?_
        refine gt_X6_9 hc dX6_post_69 hM hW.o rfl ?_
        refine lv_bipush (v := 19) hx hb dX6_post_72 (by decide) ?_
        refine lv_iconst (v := 2) hx hb dX6_post_74 (by decide) ?_
        refine lv_iload_n hx hb dX6_post_75 rfl (lv_at hl 0 rfl) ?_
        refine lv_imul hx hb dX6_post_76 ?_
        refine lv_iadd hx hb dX6_post_77 ?_
        refine lv_iload_n hx hb dX6_post_78 rfl (lv_at hl 2 rfl) ?_
        refine k_iast hc hM hS (hW.ar 0 (by decide) (by decide) rfl rfl) (inP0 ok_44) dX6_post_79 (fun H locs hM hS => ?_)
        have hM := hR.eq hM (putD_ar hW 0 (by decide) (by decide) rfl rfl)
        have hM := hR.eq hM putD_putD
        have hW := MdAt.put (g := g) (M := M) (m := q) (md := (up1 (up1 (trM md) 0 (upd ((trM md) 0) 3 ((((trM md) 0) 3) + 1))) 0 (upd ((up1 (trM md) 0 (upd ((trM md) 0) 3 ((((trM md) 0) 3) + 1))) 0) ((19 + (2 * (((trM md) 0) 3))).toNatClampNeg) v)))
        refine lv_aload_n hx hb dX6_post_80 rfl (lv_at hl 1 rfl) ?_
        refine gt_X6_9 hc dX6_post_81 hM hW.o rfl ?_
        refine lv_bipush (v := 19) hx hb dX6_post_84 (by decide) ?_
        refine lv_iconst (v := 2) hx hb dX6_post_86 (by decide) ?_
        refine lv_iload_n hx hb dX6_post_87 rfl (lv_at hl 0 rfl) ?_
        refine lv_imul hx hb dX6_post_88 ?_
        refine lv_iadd hx hb dX6_post_89 ?_
        refine lv_iconst (v := 1) hx hb dX6_post_90 (by decide) ?_
        refine lv_iadd hx hb dX6_post_91 ?_
        refine lv_iload_n hx hb dX6_post_92 rfl (lv_at hl 3 rfl) ?_
        refine k_iast hc hM hS (hW.ar 0 (by decide) (by decide) rfl rfl) (inP (by assumption) (by first | assumption | decide)) dX6_post_93 (fun H locs hM hS => ?_)
        have hM := hR.eq hM (putD_ar hW 0 (by decide) (by decide) rfl rfl)
        have hM := hR.eq hM putD_putD
        have hW := MdAt.put (g := g) (M := M) (m := q) (md := (up1 (up1 (up1 (trM md) 0 (upd ((trM md) 0) 3 ((((trM md) 0) 3) + 1))) 0 (upd ((up1 (trM md) 0 (upd ((trM md) 0) 3 ((((trM md) 0) 3) + 1))) 0) ((19 + (2 * (((trM md) 0) 3))).toNatClampNeg) v)) 0 (upd ((up1 (up1 (trM md) 0 (upd ((trM md) 0) 3 ((((trM md) 0) 3) + 1))) 0 (upd ((up1 (trM md) 0 (upd ((trM md) 0) 3 ((((trM md) 0) 3) + 1))) 0) ((19 + (2 * (((trM md) 0) 3))).toNatClampNeg) v)) 0) (((19 + (2 * (((trM md) 0) 3))) + 1).toNatClampNeg) w)))
        refine lv_aload_n hx hb dX6_post_94 rfl (lv_at hl 1 rfl) ?_
        refine lv_iload_n hx hb dX6_post_95 rfl (lv_at hl 0 rfl) ?_
        refine k_V1 hc [.int (((trM md) 0) 3)] cw_X6_57 rfl dX6_post_96 (c_X6_keeps l hlf g _ q (up1 (up1 (up1 (trM md) 0 (upd ((trM md) 0) 3 ((((trM md) 0) 3) + 1))) 0 (upd ((up1 (trM md) 0 (upd ((trM md) 0) 3 ((((trM md) 0) 3) + 1))) 0) ((19 + (2 * (((trM md) 0) 3))).toNatClampNeg) v)) 0 (upd ((up1 (up1 (trM md) 0 (upd ((trM md) 0) 3 ((((trM md) 0) 3) + 1))) 0 (upd ((up1 (trM md) 0 (upd ((trM md) 0) 3 ((((trM md) 0) 3) + 1))) 0) ((19 + (2 * (((trM md) 0) 3))).toNatClampNeg) v)) 0) (((19 + (2 * (((trM md) 0) 3))) + 1).toNatClampNeg) w)) (((trM md) 0) 3) hW (by first | assumption | exact hu)) hW.o hM hS hl.1 rfl rfl ⟨Nat.le_of_ble_eq_true rfl, Nat.le_of_ble_eq_true rfl⟩ ⟨Nat.le_of_ble_eq_true rfl, Nat.le_of_ble_eq_true rfl⟩ (Nat.le_of_ble_eq_true rfl) (fun H locs hM hS => ?_)
        have hM := hR.eq hM putD_putD
        have hW := MdAt.put (g := g) (M := M) (m := q) (md := (kpM (up1 (up1 (up1 (trM md) 0 (upd ((trM md) 0) 3 ((((trM md) 0) 3) + 1))) 0 (upd ((up1 (trM md) 0 (upd ((trM md) 0) 3 ((((trM md) 0) 3) + 1))) 0) ((19 + (2 * (((trM md) 0) 3))).toNatClampNeg) v)) 0 (upd ((up1 (up1 (trM md) 0 (upd ((trM md) 0) 3 ((((trM md) 0) 3) + 1))) 0 (upd ((up1 (trM md) 0 (upd ((trM md) 0) 3 ((((trM md) 0) 3) + 1))) 0) ((19 + (2 * (((trM md) 0) 3))).toNatClampNeg) v)) 0) (((19 + (2 * (((trM md) 0) 3))) + 1).toNatClampNeg) w))))
        exact k_iret hc hr dX6_post_99 hM hS (Nat.le_of_ble_eq_true rfl) (Nat.le_of_ble_eq_true rfl) (by show (Sum.inl (some (.int (seV (poM ((trM md) 0) v w))), putD g M q (snE md (poM ((trM md) 0) v w))) : Rs) = _; first | (simp only [poM, poF, eq_true c_11, eq_true c_21, eq_false c_44, eq_self, bM_l, bM_r, rsM_l, rsM_r, seV_l, seV_r, snE_l, snE_r, up1_at, up1_up1, up2_up2, not_false_eq_true, not_true_eq_false, and_true, true_and, and_false, false_and, and_self, ↓reduceIte, or_true, true_or, or_self, or_false, false_or]; done) | (simp only [poM, poF, eq_true c_11, eq_true c_21, eq_false c_44, eq_self, bM_l, bM_r, rsM_l, rsM_r, seV_l, seV_r, snE_l, snE_r, up1_at, up1_up1, up2_up2, not_false_eq_true, not_true_eq_false, and_true, true_and, and_false, false_and, and_self, ↓reduceIte, or_true, true_or, or_self, or_false, false_or]; rfl))
      · skip
        refine lv_aload_n hx hb dX6_post_47 rfl (lv_at hl 1 rfl) ?_
        refine lv_aload_n hx hb dX6_post_48 rfl (lv_at hl 1 rfl) ?_
        refine lv_iconst (v := 2) hx hb dX6_post_49 (by decide) ?_
        refine lv_iconst (v := 4) hx hb dX6_post_50 (by decide) ?_
        refine k_V1 hc [.int 2, .int 4] cw_X6_80 rfl dX6_post_51 (c_X6_refuses l hlf g _ q (trM md) 2 4 hW) hW.o hM hS hl.1 rfl rfl ⟨Nat.le_of_ble_eq_true rfl, Nat.le_of_ble_eq_true rfl⟩ ⟨Nat.le_of_ble_eq_true rfl, Nat.le_of_ble_eq_true rfl⟩ (Nat.le_of_ble_eq_true rfl) (fun H locs hM hS => ?_)
        have hM := hR.eq hM putD_putD
        have hW := MdAt.put (g := g) (M := M) (m := q) (md := (rfM (trM md) 2 4))
        refine k_V1 hc [.int 0] cw_X6_84 rfl dX6_post_54 (c_X6_ends l hlf g _ q (rfM (trM md) 2 4) 0 hW (by first | assumption | exact hu)) hW.o hM hS hl.1 rfl rfl ⟨Nat.le_of_ble_eq_true rfl, Nat.le_of_ble_eq_true rfl⟩ ⟨Nat.le_of_ble_eq_true rfl, Nat.le_of_ble_eq_true rfl⟩ (Nat.le_of_ble_eq_true rfl) (fun H locs hM hS => ?_)
        have hM := hR.eq hM putD_putD
        have hW := MdAt.put (g := g) (M := M) (m := q) (md := (if 0 = 0 then up2 (rfM (trM md) 2 4) 7 19 1 else kpM (rfM (trM md) 2 4)))
        exact k_iret hc hr dX6_post_57 hM hS (Nat.le_of_ble_eq_true rfl) (Nat.le_of_ble_eq_true rfl) (by show (Sum.inl (some (.int (seV (poM ((trM md) 0) v w))), putD g M q (snE md (poM ((trM md) 0) v w))) : Rs) = _; first | (simp only [poM, poF, eq_true c_11, eq_true c_21, eq_true c_44, eq_self, bM_l, bM_r, rsM_l, rsM_r, seV_l, seV_r, snE_l, snE_r, up1_at, up1_up1, up2_up2, not_false_eq_true, not_true_eq_false, and_true, true_and, and_false, false_and, and_self, ↓reduceIte, or_true, true_or, or_self, or_false, false_or]; done) | (simp only [poM, poF, eq_true c_11, eq_true c_21, eq_true c_44, eq_self, bM_l, bM_r, rsM_l, rsM_r, seV_l, seV_r, snE_l, snE_r, up1_at, up1_up1, up2_up2, not_false_eq_true, not_true_eq_false, and_true, true_and, and_false, false_and, and_self, ↓reduceIte, or_true, true_or, or_self, or_false, false_or]; rfl))
    · skip
      have c_21 := bI_eq.mp c_21
      refine lv_aload_n hx hb dX6_post_24 rfl (lv_at hl 0 rfl) ?_
      refine lv_aload_n hx hb dX6_post_25 rfl (lv_at hl 0 rfl) ?_
      refine lv_iconst (v := 1) hx hb dX6_post_26 (by decide) ?_
      refine lv_iconst (v := 0) hx hb dX6_post_27 (by decide) ?_
      refine k_V1 hc [.int 1, .int 0] cw_X6_80 rfl dX6_post_28 (c_X6_refuses l hlf g _ q (trM md) 1 0 hW) hW.o hM hS hl.1 rfl rfl ⟨Nat.le_of_ble_eq_true rfl, Nat.le_of_ble_eq_true rfl⟩ ⟨Nat.le_of_ble_eq_true rfl, Nat.le_of_ble_eq_true rfl⟩ (Nat.le_of_ble_eq_true rfl) (fun H locs hM hS => ?_)
      have hM := hR.eq hM putD_putD
      have hW := MdAt.put (g := g) (M := M) (m := q) (md := (rfM (trM md) 1 0))
      refine k_V1 hc [.int 0] cw_X6_84 rfl dX6_post_31 (c_X6_ends l hlf g _ q (rfM (trM md) 1 0) 0 hW (by first | assumption | exact hu)) hW.o hM hS hl.1 rfl rfl ⟨Nat.le_of_ble_eq_true rfl, Nat.le_of_ble_eq_true rfl⟩ ⟨Nat.le_of_ble_eq_true rfl, Nat.le_of_ble_eq_true rfl⟩ (Nat.le_of_ble_eq_true rfl) (fun H locs hM hS => ?_)
      have hM := hR.eq hM putD_putD
      have hW := MdAt.put (g := g) (M := M) (m := q) (md := (if 0 = 0 then up2 (rfM (trM md) 1 0) 7 19 1 else kpM (rfM (trM md) 1 0)))
      exact k_iret hc hr dX6_post_34 hM hS (Nat.le_of_ble_eq_true rfl) (Nat.le_of_ble_eq_true rfl) (by show (Sum.inl (some (.int (seV (poM ((trM md) 0) v w))), putD g M q (snE md (poM ((trM md) 0) v w))) : Rs) = _; first | (simp only [poM, poF, eq_true c_11, eq_false c_21, eq_self, bM_l, bM_r, rsM_l, rsM_r, seV_l, seV_r, snE_l, snE_r, up1_at, up1_up1, up2_up2, not_false_eq_true, not_true_eq_false, and_true, true_and, and_false, false_and, and_self, ↓reduceIte, or_true, true_or, or_self, or_false, false_or]; done) | (simp only [poM, poF, eq_true c_11, eq_false c_21, eq_self, bM_l, bM_r, rsM_l, rsM_r, seV_l, seV_r, snE_l, snE_r, up1_at, up1_up1, up2_up2, not_false_eq_true, not_true_eq_false, and_true, true_and, and_false, false_and, and_self, ↓reduceIte, or_true, true_or, or_self, or_false, false_or]; rfl))
set_option maxHeartbeats 4000000 in
set_option maxRecDepth 100000 in
theorem c_X6_sheet (l : Launch) (hlf : l.stackTraces = false) (g : GC) (M : HM) (q : Nat) (md : FL) (hW : MdAt g M q md) (hI : mOk (md 0)) (hu : unOk md) : KM g l yX6_sheet cX6_sheet 3 (some .int) 3 0 0 [.ref q] M (.inl (some (.int (seV (shMo (md 0)))), (putD g M q (snE md (shMo (md 0)))))) := by
  refine k_meth hlf (by decide) (Nat.le_of_ble_eq_true rfl) fun p e s m below meth c ls hc hr hnx hM hS hl => ?_
  have hc : Cx g p l s m [.ref q].toArray meth c cX6_sheet 3 RX6 := hc
  have hx := hc.1
  have hb := hc.2.1
  have hl : lv_has ls 3 [(0, .ref q)] := hl
  refine lv_aload_n hx hb dX6_sheet_0 rfl (lv_at hl 0 rfl) ?_
  refine k_V0 hc [] cw_X6_77 rfl dX6_sheet_1 (c_X6_tries l hlf g _ q md hW) hW.o hM hS hl.1 rfl rfl ⟨Nat.le_of_ble_eq_true rfl, Nat.le_of_ble_eq_true rfl⟩ ⟨Nat.le_of_ble_eq_true rfl, Nat.le_of_ble_eq_true rfl⟩ (Nat.le_of_ble_eq_true rfl) (fun H locs hM hS => ?_)
  have hW := MdAt.put (g := g) (M := M) (m := q) (md := (trM md))
  refine lv_aload_n hx hb dX6_sheet_4 rfl (lv_at hl 0 rfl) ?_
  refine gt_X6_9 hc dX6_sheet_5 hM hW.o rfl ?_
  refine lv_iconst (v := 4) hx hb dX6_sheet_8 (by decide) ?_
  refine k_ialdN hc hM (n := 81) (hW.ar 0 (by decide) (by decide) rfl rfl) (X := 4) rfl (by omega) (by decide) dX6_sheet_9 ?_
  refine lv_istore_n (lv' := [(1, .int (((trM md) 0) 4)), (0, .ref q)]) hx hb dX6_sheet_10 rfl hl (by decide) rfl (fun ls hl => ?_)
  refine lv_iload_n hx hb dX6_sheet_11 rfl (lv_at hl 0 rfl) ?_
  refine lv_iconst (v := 3) hx hb dX6_sheet_12 (by decide) ?_
  refine lv_icmp_ne (tgt := 27) hx hb dX6_sheet_13 (by decide) (fun c_13 => ?_) (fun c_13 => ?_)
  · skip
    have ok_13 : okH ((trM md) 0 4) := cnt_ok (n := 3) hI.2.2.1 c_13
    refine lv_aload_n hx hb dX6_sheet_27 rfl (lv_at hl 1 rfl) ?_
    refine gt_X6_9 hc dX6_sheet_28 hM hW.o rfl ?_
    refine lv_iconst (v := 4) hx hb dX6_sheet_31 (by decide) ?_
    refine lv_dup2_11 hx hb dX6_sheet_32 rfl rfl ?_
    refine k_ialdN hc hM (n := 81) (hW.ar 0 (by decide) (by decide) rfl rfl) (X := 4) rfl (by omega) (by decide) dX6_sheet_33 ?_
    refine lv_iconst (v := 1) hx hb dX6_sheet_34 (by decide) ?_
    refine lv_iadd hx hb dX6_sheet_35 ?_
    refine k_iastN hc hM hS (n := 81) (hW.ar 0 (by decide) (by decide) rfl rfl) (X := 4) rfl (by omega) (by decide) dX6_sheet_36 (fun H locs hM hS => ?_)
    have hM := hR.eq hM (putD_ar hW 0 (by decide) (by decide) rfl rfl)
    have hM := hR.eq hM putD_putD
    have hW := MdAt.put (g := g) (M := M) (m := q) (md := (up1 (trM md) 0 (upd ((trM md) 0) 4 ((((trM md) 0) 4) + 1))))
    refine lv_iconst (v := 0) hx hb dX6_sheet_37 (by decide) ?_
    refine lv_istore_n (lv' := [(2, .int 0), (1, .int (((trM md) 0) 4)), (0, .ref q)]) hx hb dX6_sheet_38 rfl hl (by decide) rfl (fun ls hl => ?_)
    have lp_39 : ∀ (D k : Nat), 10 - k < D → k ≤ 10 → ∀ (ls : Array Slot) (H : Heap) (locs : List Loc), hR g (putD g M q (up1 (trM md) 0 (itr (zS ((trM md) 0)) (upd ((trM md) 0) 4 (((trM md) 0 4) + 1)) k))) H → va_S (gA g) s.heap H locs → lv_has ls 3 [(2, .int (nI k)), (1, .int (((trM md) 0) 4)), (0, .ref q)] → W p l e (rmOf 3 0 0) s m [.ref q].toArray below meth c H locs 0 0 (vx_MQ below (KQ g (.inl (some (.int (seV (shMo (md 0)))), (putD g M q (snE md (shMo (md 0))))))) (KX g (.inl (some (.int (seV (shMo (md 0)))), (putD g M q (snE md (shMo (md 0))))))) [.ref q].toArray s 0 0 (gA g)) (F0 m 39 ls []) := by
      intro D
      induction D with
      | zero => intro k hD; exact absurd hD (Nat.not_lt_zero _)
      | succ D ih_39 =>
        intro k hD hk ls H locs hM hS hl
        have hW := MdAt.put (g := g) (M := M) (m := q) (md := (up1 (trM md) 0 (itr (zS ((trM md) 0)) (upd ((trM md) 0) 4 (((trM md) 0 4) + 1)) k)))
        refine lv_iload_n hx hb dX6_sheet_39 rfl (lv_at hl 0 rfl) ?_
        refine lv_bipush (v := 10) hx hb dX6_sheet_40 (by decide) ?_
        refine lv_icmp_ge (tgt := 66) hx hb dX6_sheet_42 (by decide) (fun c_42 => ?_) (fun c_42 => ?_)
        · skip
          have c_42 := (k_leL (b := 10) rfl (by decide) (by omega)).mp c_42
          have hk5 : k = 10 := by omega
          subst hk5
          refine lv_aload_n hx hb dX6_sheet_66 rfl (lv_at hl 2 rfl) ?_
          refine lv_iload_n hx hb dX6_sheet_67 rfl (lv_at hl 1 rfl) ?_
          refine k_V1 hc [.int (((trM md) 0) 4)] cw_X6_57 rfl dX6_sheet_68 (c_X6_keeps l hlf g _ q (up1 (trM md) 0 (itr (zS ((trM md) 0)) (upd ((trM md) 0) 4 (((trM md) 0 4) + 1)) 10)) (((trM md) 0) 4) hW (by first | assumption | exact hu)) hW.o hM hS hl.1 rfl rfl ⟨Nat.le_of_ble_eq_true rfl, Nat.le_of_ble_eq_true rfl⟩ ⟨Nat.le_of_ble_eq_true rfl, Nat.le_of_ble_eq_true rfl⟩ (Nat.le_of_ble_eq_true rfl) (fun H locs hM hS => ?_)
          have hM := hR.eq hM putD_putD
          have hW := MdAt.put (g := g) (M := M) (m := q) (md := (kpM (up1 (trM md) 0 (itr (zS ((trM md) 0)) (upd ((trM md) 0) 4 (((trM md) 0 4) + 1)) 10))))
          exact k_iret hc hr dX6_sheet_71 hM hS (Nat.le_of_ble_eq_true rfl) (Nat.le_of_ble_eq_true rfl) (by show (Sum.inl (some (.int (seV (shMo ((trM md) 0)))), putD g M q (snE md (shMo ((trM md) 0)))) : Rs) = _; first | (simp only [shMo, shF, eq_false c_13, eq_self, bM_l, bM_r, rsM_l, rsM_r, seV_l, seV_r, snE_l, snE_r, up1_at, up1_up1, up2_up2, not_false_eq_true, not_true_eq_false, and_true, true_and, and_false, false_and, and_self, ↓reduceIte, or_true, true_or, or_self, or_false, false_or]; done) | (simp only [shMo, shF, eq_false c_13, eq_self, bM_l, bM_r, rsM_l, rsM_r, seV_l, seV_r, snE_l, snE_r, up1_at, up1_up1, up2_up2, not_false_eq_true, not_true_eq_false, and_true, true_and, and_false, false_and, and_self, ↓reduceIte, or_true, true_or, or_self, or_false, false_or]; rfl))
        · skip
          have c_42 : ¬ 10 ≤ k := fun h => c_42 ((k_leL (b := 10) rfl (by decide) (by omega)).mpr h)
          have ok_42 : okS (nI k) := okS_k (by omega)
          refine lv_aload_n hx hb dX6_sheet_45 rfl (lv_at hl 2 rfl) ?_
          refine gt_X6_9 hc dX6_sheet_46 hM hW.o rfl ?_
          refine lv_bipush (v := 27) hx hb dX6_sheet_49 (by decide) ?_
          refine lv_bipush (v := 10) hx hb dX6_sheet_51 (by decide) ?_
          refine lv_iload_n hx hb dX6_sheet_53 rfl (lv_at hl 1 rfl) ?_
          refine lv_imul hx hb dX6_sheet_54 ?_
          refine lv_iadd hx hb dX6_sheet_55 ?_
          refine lv_iload_n hx hb dX6_sheet_56 rfl (lv_at hl 0 rfl) ?_
          refine lv_iadd hx hb dX6_sheet_57 ?_
          refine lv_iconst (v := 0) hx hb dX6_sheet_58 (by decide) ?_
          refine k_iast hc hM hS (hW.ar 0 (by decide) (by decide) rfl rfl) (inD (by assumption) (by assumption)) dX6_sheet_59 (fun H locs hM hS => ?_)
          have hM := hR.eq hM (putD_ar hW 0 (by decide) (by decide) rfl rfl)
          have hM := hR.eq hM putD_putD
          have hW := MdAt.put (g := g) (M := M) (m := q) (md := (up1 (up1 (trM md) 0 (itr (zS ((trM md) 0)) (upd ((trM md) 0) 4 (((trM md) 0 4) + 1)) k)) 0 (upd ((up1 (trM md) 0 (itr (zS ((trM md) 0)) (upd ((trM md) 0) 4 (((trM md) 0 4) + 1)) k)) 0) (((27 + (10 * (((trM md) 0) 4))) + (nI k)).toNatClampNeg) 0)))
          refine lv_iinc (v := (nI (k + 1))) (lv' := [(2, .int (nI (k + 1))), (1, .int (((trM md) 0) 4)), (0, .ref q)]) hx hb dX6_sheet_60 hl (k := 0) rfl (k_inc1 _) (by decide) rfl (fun ls hl => ?_)
          refine lv_goto (tgt := 39) hx hb dX6_sheet_63 (by decide) ?_
          have hM : hR g (putD g M q (up1 (trM md) 0 (itr (zS ((trM md) 0)) (upd ((trM md) 0) 4 (((trM md) 0 4) + 1)) (k + 1)))) _ := hR.eq hM (congrArg (putD g M q) (by rw [up1_up1, up1_at, itr_s]; rfl))
          exact ih_39 (k + 1) (by omega) (by omega) ls _ _ hM hS (lv_sub hl [0, 1, 2] rfl)
    have z_2 : 0 = (nI 0) := rfl
    have hl := lv_chg (lv_sub hl [0, 1, 2] rfl) z_2
    exact lp_39 (10 + 1) 0 (by omega) (by omega) ls _ _ hM hS (lv_sub hl [0, 1, 2] rfl)
  · skip
    refine lv_aload_n hx hb dX6_sheet_16 rfl (lv_at hl 1 rfl) ?_
    refine lv_aload_n hx hb dX6_sheet_17 rfl (lv_at hl 1 rfl) ?_
    refine lv_iconst (v := 2) hx hb dX6_sheet_18 (by decide) ?_
    refine lv_iconst (v := 3) hx hb dX6_sheet_19 (by decide) ?_
    refine k_V1 hc [.int 2, .int 3] cw_X6_80 rfl dX6_sheet_20 (c_X6_refuses l hlf g _ q (trM md) 2 3 hW) hW.o hM hS hl.1 rfl rfl ⟨Nat.le_of_ble_eq_true rfl, Nat.le_of_ble_eq_true rfl⟩ ⟨Nat.le_of_ble_eq_true rfl, Nat.le_of_ble_eq_true rfl⟩ (Nat.le_of_ble_eq_true rfl) (fun H locs hM hS => ?_)
    have hM := hR.eq hM putD_putD
    have hW := MdAt.put (g := g) (M := M) (m := q) (md := (rfM (trM md) 2 3))
    refine k_V1 hc [.int 0] cw_X6_84 rfl dX6_sheet_23 (c_X6_ends l hlf g _ q (rfM (trM md) 2 3) 0 hW (by first | assumption | exact hu)) hW.o hM hS hl.1 rfl rfl ⟨Nat.le_of_ble_eq_true rfl, Nat.le_of_ble_eq_true rfl⟩ ⟨Nat.le_of_ble_eq_true rfl, Nat.le_of_ble_eq_true rfl⟩ (Nat.le_of_ble_eq_true rfl) (fun H locs hM hS => ?_)
    have hM := hR.eq hM putD_putD
    have hW := MdAt.put (g := g) (M := M) (m := q) (md := (if 0 = 0 then up2 (rfM (trM md) 2 3) 7 19 1 else kpM (rfM (trM md) 2 3)))
    exact k_iret hc hr dX6_sheet_26 hM hS (Nat.le_of_ble_eq_true rfl) (Nat.le_of_ble_eq_true rfl) (by show (Sum.inl (some (.int (seV (shMo ((trM md) 0)))), putD g M q (snE md (shMo ((trM md) 0)))) : Rs) = _; first | (simp only [shMo, shF, eq_true c_13, eq_self, bM_l, bM_r, rsM_l, rsM_r, seV_l, seV_r, snE_l, snE_r, up1_at, up1_up1, up2_up2, not_false_eq_true, not_true_eq_false, and_true, true_and, and_false, false_and, and_self, ↓reduceIte, or_true, true_or, or_self, or_false, false_or]; done) | (simp only [shMo, shF, eq_true c_13, eq_self, bM_l, bM_r, rsM_l, rsM_r, seV_l, seV_r, snE_l, snE_r, up1_at, up1_up1, up2_up2, not_false_eq_true, not_true_eq_false, and_true, true_and, and_false, false_and, and_self, ↓reduceIte, or_true, true_or, or_self, or_false, false_or]; rfl))
set_option maxHeartbeats 4000000 in
set_option maxRecDepth 100000 in
theorem c_X6_heat (l : Launch) (hlf : l.stackTraces = false) (g : GC) (M : HM) (q : Nat) (md : FL) (v : Int32) (hW : MdAt g M q md) (hI : mOk (md 0)) (hu : unOk md) : KM g l yX6_heat cX6_heat 2 (some .int) 6 0 0 [.ref q, .int v] M (.inl (some (.int (seV (heM (md 0) v))), (putD g M q (snE md (heM (md 0) v))))) := by
  refine k_meth hlf (by decide) (Nat.le_of_ble_eq_true rfl) fun p e s m below meth c ls hc hr hnx hM hS hl => ?_
  have hc : Cx g p l s m [.ref q, .int v].toArray meth c cX6_heat 2 RX6 := hc
  have hx := hc.1
  have hb := hc.2.1
  have hl : lv_has ls 2 [(0, .ref q), (1, .int v)] := hl
  refine lv_aload_n hx hb dX6_heat_0 rfl (lv_at hl 0 rfl) ?_
  refine k_V0 hc [] cw_X6_77 rfl dX6_heat_1 (c_X6_tries l hlf g _ q md hW) hW.o hM hS hl.1 rfl rfl ⟨Nat.le_of_ble_eq_true rfl, Nat.le_of_ble_eq_true rfl⟩ ⟨Nat.le_of_ble_eq_true rfl, Nat.le_of_ble_eq_true rfl⟩ (Nat.le_of_ble_eq_true rfl) (fun H locs hM hS => ?_)
  have hW := MdAt.put (g := g) (M := M) (m := q) (md := (trM md))
  refine lv_iload_n hx hb dX6_heat_4 rfl (lv_at hl 1 rfl) ?_
  refine lv_iconst (v := 0) hx hb dX6_heat_5 (by decide) ?_
  refine lv_bipush (v := 9) hx hb dX6_heat_6 (by decide) ?_
  refine k_S1 hc [.int v, .int 0, .int 9] cw_X6_64 dX6_heat_8 (c_X6_in l hlf g _ v 0 9) hM hS hl.1 rfl rfl ⟨Nat.le_of_ble_eq_true rfl, Nat.le_of_ble_eq_true rfl⟩ ⟨Nat.le_of_ble_eq_true rfl, Nat.le_of_ble_eq_true rfl⟩ (Nat.le_of_ble_eq_true rfl) (fun H locs hM hS => ?_)
  refine lv_if_ne (tgt := 25) hx hb dX6_heat_11 (by decide) (fun c_11 => ?_) (fun c_11 => ?_)
  · skip
    have c_11 := bI_ne.mp c_11
    refine lv_aload_n hx hb dX6_heat_25 rfl (lv_at hl 0 rfl) ?_
    refine gt_X6_9 hc dX6_heat_26 hM hW.o rfl ?_
    refine lv_iconst (v := 1) hx hb dX6_heat_29 (by decide) ?_
    refine lv_iload_n hx hb dX6_heat_30 rfl (lv_at hl 1 rfl) ?_
    refine k_iastN hc hM hS (n := 81) (hW.ar 0 (by decide) (by decide) rfl rfl) (X := 1) rfl (by omega) (by decide) dX6_heat_31 (fun H locs hM hS => ?_)
    have hM := hR.eq hM (putD_ar hW 0 (by decide) (by decide) rfl rfl)
    have hM := hR.eq hM putD_putD
    have hW := MdAt.put (g := g) (M := M) (m := q) (md := (up1 (trM md) 0 (upd ((trM md) 0) 1 v)))
    refine lv_aload_n hx hb dX6_heat_32 rfl (lv_at hl 0 rfl) ?_
    refine lv_aload_n hx hb dX6_heat_33 rfl (lv_at hl 0 rfl) ?_
    refine lv_iconst (v := 0) hx hb dX6_heat_34 (by decide) ?_
    refine k_V1 hc [.int 0] cw_X6_88 rfl dX6_heat_35 (c_X6_heatBehind l hlf g _ q (up1 (trM md) 0 (upd ((trM md) 0) 1 v)) 0 hW) hW.o hM hS hl.1 rfl rfl ⟨Nat.le_of_ble_eq_true rfl, Nat.le_of_ble_eq_true rfl⟩ ⟨Nat.le_of_ble_eq_true rfl, Nat.le_of_ble_eq_true rfl⟩ (Nat.le_of_ble_eq_true rfl) (fun H locs hM hS => ?_)
    refine k_V1 hc [.int (mHb ((up1 (trM md) 0 (upd ((trM md) 0) 1 v)) 0) 0)] cw_X6_57 rfl dX6_heat_38 (c_X6_keeps l hlf g _ q (up1 (trM md) 0 (upd ((trM md) 0) 1 v)) (mHb ((up1 (trM md) 0 (upd ((trM md) 0) 1 v)) 0) 0) hW (by first | assumption | exact hu)) hW.o hM hS hl.1 rfl rfl ⟨Nat.le_of_ble_eq_true rfl, Nat.le_of_ble_eq_true rfl⟩ ⟨Nat.le_of_ble_eq_true rfl, Nat.le_of_ble_eq_true rfl⟩ (Nat.le_of_ble_eq_true rfl) (fun H locs hM hS => ?_)
    have hM := hR.eq hM putD_putD
    have hW := MdAt.put (g := g) (M := M) (m := q) (md := (kpM (up1 (trM md) 0 (upd ((trM md) 0) 1 v))))
    exact k_iret hc hr dX6_heat_41 hM hS (Nat.le_of_ble_eq_true rfl) (Nat.le_of_ble_eq_true rfl) (by show (Sum.inl (some (.int (seV (heM ((trM md) 0) v))), putD g M q (snE md (heM ((trM md) 0) v))) : Rs) = _; first | (simp only [heM, eq_true c_11, eq_self, bM_l, bM_r, rsM_l, rsM_r, seV_l, seV_r, snE_l, snE_r, up1_at, up1_up1, up2_up2, not_false_eq_true, not_true_eq_false, and_true, true_and, and_false, false_and, and_self, ↓reduceIte, or_true, true_or, or_self, or_false, false_or]; done) | (simp only [heM, eq_true c_11, eq_self, bM_l, bM_r, rsM_l, rsM_r, seV_l, seV_r, snE_l, snE_r, up1_at, up1_up1, up2_up2, not_false_eq_true, not_true_eq_false, and_true, true_and, and_false, false_and, and_self, ↓reduceIte, or_true, true_or, or_self, or_false, false_or]; rfl))
  · skip
    have c_11 := bI_eq.mp c_11
    refine lv_aload_n hx hb dX6_heat_14 rfl (lv_at hl 0 rfl) ?_
    refine lv_aload_n hx hb dX6_heat_15 rfl (lv_at hl 0 rfl) ?_
    refine lv_iconst (v := 1) hx hb dX6_heat_16 (by decide) ?_
    refine lv_iconst (v := 0) hx hb dX6_heat_17 (by decide) ?_
    refine k_V1 hc [.int 1, .int 0] cw_X6_80 rfl dX6_heat_18 (c_X6_refuses l hlf g _ q (trM md) 1 0 hW) hW.o hM hS hl.1 rfl rfl ⟨Nat.le_of_ble_eq_true rfl, Nat.le_of_ble_eq_true rfl⟩ ⟨Nat.le_of_ble_eq_true rfl, Nat.le_of_ble_eq_true rfl⟩ (Nat.le_of_ble_eq_true rfl) (fun H locs hM hS => ?_)
    have hM := hR.eq hM putD_putD
    have hW := MdAt.put (g := g) (M := M) (m := q) (md := (rfM (trM md) 1 0))
    refine k_V1 hc [.int 0] cw_X6_84 rfl dX6_heat_21 (c_X6_ends l hlf g _ q (rfM (trM md) 1 0) 0 hW (by first | assumption | exact hu)) hW.o hM hS hl.1 rfl rfl ⟨Nat.le_of_ble_eq_true rfl, Nat.le_of_ble_eq_true rfl⟩ ⟨Nat.le_of_ble_eq_true rfl, Nat.le_of_ble_eq_true rfl⟩ (Nat.le_of_ble_eq_true rfl) (fun H locs hM hS => ?_)
    have hM := hR.eq hM putD_putD
    have hW := MdAt.put (g := g) (M := M) (m := q) (md := (if 0 = 0 then up2 (rfM (trM md) 1 0) 7 19 1 else kpM (rfM (trM md) 1 0)))
    exact k_iret hc hr dX6_heat_24 hM hS (Nat.le_of_ble_eq_true rfl) (Nat.le_of_ble_eq_true rfl) (by show (Sum.inl (some (.int (seV (heM ((trM md) 0) v))), putD g M q (snE md (heM ((trM md) 0) v))) : Rs) = _; first | (simp only [heM, eq_false c_11, eq_self, bM_l, bM_r, rsM_l, rsM_r, seV_l, seV_r, snE_l, snE_r, up1_at, up1_up1, up2_up2, not_false_eq_true, not_true_eq_false, and_true, true_and, and_false, false_and, and_self, ↓reduceIte, or_true, true_or, or_self, or_false, false_or]; done) | (simp only [heM, eq_false c_11, eq_self, bM_l, bM_r, rsM_l, rsM_r, seV_l, seV_r, snE_l, snE_r, up1_at, up1_up1, up2_up2, not_false_eq_true, not_true_eq_false, and_true, true_and, and_false, false_and, and_self, ↓reduceIte, or_true, true_or, or_self, or_false, false_or]; rfl))
set_option maxHeartbeats 4000000 in
set_option maxRecDepth 100000 in
theorem c_X6_camel (l : Launch) (hlf : l.stackTraces = false) (g : GC) (M : HM) (q : Nat) (md : FL) (v : Int32) (hW : MdAt g M q md) (hI : mOk (md 0)) (hu : unOk md) : KM g l yX6_camel cX6_camel 4 (some .int) 3 0 0 [.ref q, .int v] M (.inl (some (.int (seV (caM (md 0) v))), (putD g M q (snE md (caM (md 0) v))))) := by
  refine k_meth hlf (by decide) (Nat.le_of_ble_eq_true rfl) fun p e s m below meth c ls hc hr hnx hM hS hl => ?_
  have hc : Cx g p l s m [.ref q, .int v].toArray meth c cX6_camel 4 RX6 := hc
  have hx := hc.1
  have hb := hc.2.1
  have hl : lv_has ls 4 [(0, .ref q), (1, .int v)] := hl
  refine lv_aload_n hx hb dX6_camel_0 rfl (lv_at hl 0 rfl) ?_
  refine k_V0 hc [] cw_X6_77 rfl dX6_camel_1 (c_X6_tries l hlf g _ q md hW) hW.o hM hS hl.1 rfl rfl ⟨Nat.le_of_ble_eq_true rfl, Nat.le_of_ble_eq_true rfl⟩ ⟨Nat.le_of_ble_eq_true rfl, Nat.le_of_ble_eq_true rfl⟩ (Nat.le_of_ble_eq_true rfl) (fun H locs hM hS => ?_)
  have hW := MdAt.put (g := g) (M := M) (m := q) (md := (trM md))
  refine lv_iload_n hx hb dX6_camel_4 rfl (lv_at hl 1 rfl) ?_
  refine lv_iconst (v := 0) hx hb dX6_camel_5 (by decide) ?_
  refine lv_bipush (v := 99) hx hb dX6_camel_6 (by decide) ?_
  refine k_S1 hc [.int v, .int 0, .int 99] cw_X6_64 dX6_camel_8 (c_X6_in l hlf g _ v 0 99) hM hS hl.1 rfl rfl ⟨Nat.le_of_ble_eq_true rfl, Nat.le_of_ble_eq_true rfl⟩ ⟨Nat.le_of_ble_eq_true rfl, Nat.le_of_ble_eq_true rfl⟩ (Nat.le_of_ble_eq_true rfl) (fun H locs hM hS => ?_)
  refine lv_if_ne (tgt := 25) hx hb dX6_camel_11 (by decide) (fun c_11 => ?_) (fun c_11 => ?_)
  · skip
    have c_11 := bI_ne.mp c_11
    refine lv_aload_n hx hb dX6_camel_25 rfl (lv_at hl 0 rfl) ?_
    refine gt_X6_9 hc dX6_camel_26 hM hW.o rfl ?_
    refine lv_iconst (v := 5) hx hb dX6_camel_29 (by decide) ?_
    refine k_ialdN hc hM (n := 81) (hW.ar 0 (by decide) (by decide) rfl rfl) (X := 5) rfl (by omega) (by decide) dX6_camel_30 ?_
    refine lv_istore_n (lv' := [(2, .int (((trM md) 0) 5)), (0, .ref q), (1, .int v)]) hx hb dX6_camel_31 rfl hl (by decide) rfl (fun ls hl => ?_)
    refine lv_iload_n hx hb dX6_camel_32 rfl (lv_at hl 0 rfl) ?_
    refine lv_bipush (v := 6) hx hb dX6_camel_33 (by decide) ?_
    refine lv_icmp_ne (tgt := 50) hx hb dX6_camel_35 (by decide) (fun c_35 => ?_) (fun c_35 => ?_)
    · skip
      have ok_35 : okC ((trM md) 0 5) := cnt_ok (n := 6) hI.2.2.2 c_35
      refine lv_aload_n hx hb dX6_camel_50 rfl (lv_at hl 1 rfl) ?_
      refine gt_X6_9 hc dX6_camel_51 hM hW.o rfl ?_
      refine lv_iconst (v := 5) hx hb dX6_camel_54 (by decide) ?_
      refine lv_dup2_11 hx hb dX6_camel_55 rfl rfl ?_
      refine k_ialdN hc hM (n := 81) (hW.ar 0 (by decide) (by decide) rfl rfl) (X := 5) rfl (by omega) (by decide) dX6_camel_56 ?_
      refine lv_iconst (v := 1) hx hb dX6_camel_57 (by decide) ?_
      refine lv_iadd hx hb dX6_camel_58 ?_
      refine k_iastN hc hM hS (n := 81) (hW.ar 0 (by decide) (by decide) rfl rfl) (X := 5) rfl (by omega) (by decide) dX6_camel_59 (fun H locs hM hS => ?_)
      have hM := hR.eq hM (putD_ar hW 0 (by decide) (by decide) rfl rfl)
      have hM := hR.eq hM putD_putD
      have hW := MdAt.put (g := g) (M := M) (m := q) (md := (up1 (trM md) 0 (upd ((trM md) 0) 5 ((((trM md) 0) 5) + 1))))
      refine lv_iconst (v := 0) hx hb dX6_camel_60 (by decide) ?_
      refine lv_istore_n (lv' := [(3, .int 0), (2, .int (((trM md) 0) 5)), (0, .ref q), (1, .int v)]) hx hb dX6_camel_61 rfl hl (by decide) rfl (fun ls hl => ?_)
      have lp_62 : ∀ (D k : Nat), 4 - k < D → k ≤ 4 → ∀ (ls : Array Slot) (H : Heap) (locs : List Loc), hR g (putD g M q (up1 (trM md) 0 (itr (c4S ((trM md) 0 5)) (upd ((trM md) 0) 5 (((trM md) 0 5) + 1)) k))) H → va_S (gA g) s.heap H locs → lv_has ls 4 [(3, .int (nI k)), (2, .int (((trM md) 0) 5)), (0, .ref q), (1, .int v)] → W p l e (rmOf 3 0 0) s m [.ref q, .int v].toArray below meth c H locs 0 0 (vx_MQ below (KQ g (.inl (some (.int (seV (caM (md 0) v))), (putD g M q (snE md (caM (md 0) v)))))) (KX g (.inl (some (.int (seV (caM (md 0) v))), (putD g M q (snE md (caM (md 0) v)))))) [.ref q, .int v].toArray s 0 0 (gA g)) (F0 m 62 ls []) := by
        intro D
        induction D with
        | zero => intro k hD; exact absurd hD (Nat.not_lt_zero _)
        | succ D ih_62 =>
          intro k hD hk ls H locs hM hS hl
          have hW := MdAt.put (g := g) (M := M) (m := q) (md := (up1 (trM md) 0 (itr (c4S ((trM md) 0 5)) (upd ((trM md) 0) 5 (((trM md) 0 5) + 1)) k)))
          refine lv_iload_n hx hb dX6_camel_62 rfl (lv_at hl 0 rfl) ?_
          refine lv_iconst (v := 4) hx hb dX6_camel_63 (by decide) ?_
          refine lv_icmp_ge (tgt := 80) hx hb dX6_camel_64 (by decide) (fun c_64 => ?_) (fun c_64 => ?_)
          · skip
            have c_64 := (k_leL (b := 4) rfl (by decide) (by omega)).mp c_64
            have hk5 : k = 4 := by omega
            subst hk5
            refine lv_aload_n hx hb dX6_camel_80 rfl (lv_at hl 2 rfl) ?_
            refine lv_iload_n hx hb dX6_camel_81 rfl (lv_at hl 1 rfl) ?_
            refine lv_iconst (v := 0) hx hb dX6_camel_82 (by decide) ?_
            refine lv_iload_n hx hb dX6_camel_83 rfl (lv_at hl 3 rfl) ?_
            refine k_V0 hc [.int (((trM md) 0) 5), .int 0, .int v] cw_X6_131 rfl dX6_camel_84 (c_X6_setsCamel l hlf g _ q (up1 (trM md) 0 (itr (c4S ((trM md) 0 5)) (upd ((trM md) 0) 5 (((trM md) 0 5) + 1)) 4)) (((trM md) 0) 5) 0 v hW (by first | assumption | decide) (by first | assumption | decide)) hW.o hM hS hl.1 rfl rfl ⟨Nat.le_of_ble_eq_true rfl, Nat.le_of_ble_eq_true rfl⟩ ⟨Nat.le_of_ble_eq_true rfl, Nat.le_of_ble_eq_true rfl⟩ (Nat.le_of_ble_eq_true rfl) (fun H locs hM hS => ?_)
            have hM := hR.eq hM putD_putD
            have hW := MdAt.put (g := g) (M := M) (m := q) (md := (up1 (up1 (trM md) 0 (itr (c4S ((trM md) 0 5)) (upd ((trM md) 0) 5 (((trM md) 0 5) + 1)) 4)) 0 (sC ((up1 (trM md) 0 (itr (c4S ((trM md) 0 5)) (upd ((trM md) 0) 5 (((trM md) 0 5) + 1)) 4)) 0) (((trM md) 0) 5) 0 v)))
            refine lv_aload_n hx hb dX6_camel_87 rfl (lv_at hl 2 rfl) ?_
            refine lv_iload_n hx hb dX6_camel_88 rfl (lv_at hl 1 rfl) ?_
            refine k_V1 hc [.int (((trM md) 0) 5)] cw_X6_57 rfl dX6_camel_89 (c_X6_keeps l hlf g _ q (up1 (up1 (trM md) 0 (itr (c4S ((trM md) 0 5)) (upd ((trM md) 0) 5 (((trM md) 0 5) + 1)) 4)) 0 (sC ((up1 (trM md) 0 (itr (c4S ((trM md) 0 5)) (upd ((trM md) 0) 5 (((trM md) 0 5) + 1)) 4)) 0) (((trM md) 0) 5) 0 v)) (((trM md) 0) 5) hW (by first | assumption | exact hu)) hW.o hM hS hl.1 rfl rfl ⟨Nat.le_of_ble_eq_true rfl, Nat.le_of_ble_eq_true rfl⟩ ⟨Nat.le_of_ble_eq_true rfl, Nat.le_of_ble_eq_true rfl⟩ (Nat.le_of_ble_eq_true rfl) (fun H locs hM hS => ?_)
            have hM := hR.eq hM putD_putD
            have hW := MdAt.put (g := g) (M := M) (m := q) (md := (kpM (up1 (up1 (trM md) 0 (itr (c4S ((trM md) 0 5)) (upd ((trM md) 0) 5 (((trM md) 0 5) + 1)) 4)) 0 (sC ((up1 (trM md) 0 (itr (c4S ((trM md) 0 5)) (upd ((trM md) 0) 5 (((trM md) 0 5) + 1)) 4)) 0) (((trM md) 0) 5) 0 v))))
            exact k_iret hc hr dX6_camel_92 hM hS (Nat.le_of_ble_eq_true rfl) (Nat.le_of_ble_eq_true rfl) (by show (Sum.inl (some (.int (seV (caM ((trM md) 0) v))), putD g M q (snE md (caM ((trM md) 0) v))) : Rs) = _; first | (simp only [caM, caF2, eq_true c_11, eq_false c_35, eq_self, bM_l, bM_r, rsM_l, rsM_r, seV_l, seV_r, snE_l, snE_r, up1_at, up1_up1, up2_up2, not_false_eq_true, not_true_eq_false, and_true, true_and, and_false, false_and, and_self, ↓reduceIte, or_true, true_or, or_self, or_false, false_or]; done) | (simp only [caM, caF2, eq_true c_11, eq_false c_35, eq_self, bM_l, bM_r, rsM_l, rsM_r, seV_l, seV_r, snE_l, snE_r, up1_at, up1_up1, up2_up2, not_false_eq_true, not_true_eq_false, and_true, true_and, and_false, false_and, and_self, ↓reduceIte, or_true, true_or, or_self, or_false, false_or]; rfl))
          · skip
            have c_64 : ¬ 4 ≤ k := fun h => c_64 ((k_leL (b := 4) rfl (by decide) (by omega)).mpr h)
            have ok_64 : okW (nI k) := okW_k (by omega)
            refine lv_aload_n hx hb dX6_camel_67 rfl (lv_at hl 2 rfl) ?_
            refine lv_iload_n hx hb dX6_camel_68 rfl (lv_at hl 1 rfl) ?_
            refine lv_iload_n hx hb dX6_camel_69 rfl (lv_at hl 0 rfl) ?_
            refine lv_iconst (v := 0) hx hb dX6_camel_70 (by decide) ?_
            refine k_V0 hc [.int (((trM md) 0) 5), .int (nI k), .int 0] cw_X6_131 rfl dX6_camel_71 (c_X6_setsCamel l hlf g _ q (up1 (trM md) 0 (itr (c4S ((trM md) 0 5)) (upd ((trM md) 0) 5 (((trM md) 0 5) + 1)) k)) (((trM md) 0) 5) (nI k) 0 hW (by first | assumption | decide) (by first | assumption | decide)) hW.o hM hS hl.1 rfl rfl ⟨Nat.le_of_ble_eq_true rfl, Nat.le_of_ble_eq_true rfl⟩ ⟨Nat.le_of_ble_eq_true rfl, Nat.le_of_ble_eq_true rfl⟩ (Nat.le_of_ble_eq_true rfl) (fun H locs hM hS => ?_)
            have hM := hR.eq hM putD_putD
            have hW := MdAt.put (g := g) (M := M) (m := q) (md := (up1 (up1 (trM md) 0 (itr (c4S ((trM md) 0 5)) (upd ((trM md) 0) 5 (((trM md) 0 5) + 1)) k)) 0 (sC ((up1 (trM md) 0 (itr (c4S ((trM md) 0 5)) (upd ((trM md) 0) 5 (((trM md) 0 5) + 1)) k)) 0) (((trM md) 0) 5) (nI k) 0)))
            refine lv_iinc (v := (nI (k + 1))) (lv' := [(3, .int (nI (k + 1))), (2, .int (((trM md) 0) 5)), (0, .ref q), (1, .int v)]) hx hb dX6_camel_74 hl (k := 0) rfl (k_inc1 _) (by decide) rfl (fun ls hl => ?_)
            refine lv_goto (tgt := 62) hx hb dX6_camel_77 (by decide) ?_
            have hM : hR g (putD g M q (up1 (trM md) 0 (itr (c4S ((trM md) 0 5)) (upd ((trM md) 0) 5 (((trM md) 0 5) + 1)) (k + 1)))) _ := hR.eq hM (congrArg (putD g M q) (by rw [up1_up1, up1_at, itr_s]; rfl))
            exact ih_62 (k + 1) (by omega) (by omega) ls _ _ hM hS (lv_sub hl [0, 1, 2, 3] rfl)
      have z_3 : 0 = (nI 0) := rfl
      have hl := lv_chg (lv_sub hl [0, 1, 2, 3] rfl) z_3
      exact lp_62 (4 + 1) 0 (by omega) (by omega) ls _ _ hM hS (lv_sub hl [0, 1, 2, 3] rfl)
    · skip
      refine lv_aload_n hx hb dX6_camel_38 rfl (lv_at hl 1 rfl) ?_
      refine lv_aload_n hx hb dX6_camel_39 rfl (lv_at hl 1 rfl) ?_
      refine lv_iconst (v := 2) hx hb dX6_camel_40 (by decide) ?_
      refine lv_bipush (v := 6) hx hb dX6_camel_41 (by decide) ?_
      refine k_V1 hc [.int 2, .int 6] cw_X6_80 rfl dX6_camel_43 (c_X6_refuses l hlf g _ q (trM md) 2 6 hW) hW.o hM hS hl.1 rfl rfl ⟨Nat.le_of_ble_eq_true rfl, Nat.le_of_ble_eq_true rfl⟩ ⟨Nat.le_of_ble_eq_true rfl, Nat.le_of_ble_eq_true rfl⟩ (Nat.le_of_ble_eq_true rfl) (fun H locs hM hS => ?_)
      have hM := hR.eq hM putD_putD
      have hW := MdAt.put (g := g) (M := M) (m := q) (md := (rfM (trM md) 2 6))
      refine k_V1 hc [.int 0] cw_X6_84 rfl dX6_camel_46 (c_X6_ends l hlf g _ q (rfM (trM md) 2 6) 0 hW (by first | assumption | exact hu)) hW.o hM hS hl.1 rfl rfl ⟨Nat.le_of_ble_eq_true rfl, Nat.le_of_ble_eq_true rfl⟩ ⟨Nat.le_of_ble_eq_true rfl, Nat.le_of_ble_eq_true rfl⟩ (Nat.le_of_ble_eq_true rfl) (fun H locs hM hS => ?_)
      have hM := hR.eq hM putD_putD
      have hW := MdAt.put (g := g) (M := M) (m := q) (md := (if 0 = 0 then up2 (rfM (trM md) 2 6) 7 19 1 else kpM (rfM (trM md) 2 6)))
      exact k_iret hc hr dX6_camel_49 hM hS (Nat.le_of_ble_eq_true rfl) (Nat.le_of_ble_eq_true rfl) (by show (Sum.inl (some (.int (seV (caM ((trM md) 0) v))), putD g M q (snE md (caM ((trM md) 0) v))) : Rs) = _; first | (simp only [caM, caF2, eq_true c_11, eq_true c_35, eq_self, bM_l, bM_r, rsM_l, rsM_r, seV_l, seV_r, snE_l, snE_r, up1_at, up1_up1, up2_up2, not_false_eq_true, not_true_eq_false, and_true, true_and, and_false, false_and, and_self, ↓reduceIte, or_true, true_or, or_self, or_false, false_or]; done) | (simp only [caM, caF2, eq_true c_11, eq_true c_35, eq_self, bM_l, bM_r, rsM_l, rsM_r, seV_l, seV_r, snE_l, snE_r, up1_at, up1_up1, up2_up2, not_false_eq_true, not_true_eq_false, and_true, true_and, and_false, false_and, and_self, ↓reduceIte, or_true, true_or, or_self, or_false, false_or]; rfl))
  · skip
    have c_11 := bI_eq.mp c_11
    refine lv_aload_n hx hb dX6_camel_14 rfl (lv_at hl 0 rfl) ?_
    refine lv_aload_n hx hb dX6_camel_15 rfl (lv_at hl 0 rfl) ?_
    refine lv_iconst (v := 1) hx hb dX6_camel_16 (by decide) ?_
    refine lv_iconst (v := 0) hx hb dX6_camel_17 (by decide) ?_
    refine k_V1 hc [.int 1, .int 0] cw_X6_80 rfl dX6_camel_18 (c_X6_refuses l hlf g _ q (trM md) 1 0 hW) hW.o hM hS hl.1 rfl rfl ⟨Nat.le_of_ble_eq_true rfl, Nat.le_of_ble_eq_true rfl⟩ ⟨Nat.le_of_ble_eq_true rfl, Nat.le_of_ble_eq_true rfl⟩ (Nat.le_of_ble_eq_true rfl) (fun H locs hM hS => ?_)
    have hM := hR.eq hM putD_putD
    have hW := MdAt.put (g := g) (M := M) (m := q) (md := (rfM (trM md) 1 0))
    refine k_V1 hc [.int 0] cw_X6_84 rfl dX6_camel_21 (c_X6_ends l hlf g _ q (rfM (trM md) 1 0) 0 hW (by first | assumption | exact hu)) hW.o hM hS hl.1 rfl rfl ⟨Nat.le_of_ble_eq_true rfl, Nat.le_of_ble_eq_true rfl⟩ ⟨Nat.le_of_ble_eq_true rfl, Nat.le_of_ble_eq_true rfl⟩ (Nat.le_of_ble_eq_true rfl) (fun H locs hM hS => ?_)
    have hM := hR.eq hM putD_putD
    have hW := MdAt.put (g := g) (M := M) (m := q) (md := (if 0 = 0 then up2 (rfM (trM md) 1 0) 7 19 1 else kpM (rfM (trM md) 1 0)))
    exact k_iret hc hr dX6_camel_24 hM hS (Nat.le_of_ble_eq_true rfl) (Nat.le_of_ble_eq_true rfl) (by show (Sum.inl (some (.int (seV (caM ((trM md) 0) v))), putD g M q (snE md (caM ((trM md) 0) v))) : Rs) = _; first | (simp only [caM, caF2, eq_false c_11, eq_self, bM_l, bM_r, rsM_l, rsM_r, seV_l, seV_r, snE_l, snE_r, up1_at, up1_up1, up2_up2, not_false_eq_true, not_true_eq_false, and_true, true_and, and_false, false_and, and_self, ↓reduceIte, or_true, true_or, or_self, or_false, false_or]; done) | (simp only [caM, caF2, eq_false c_11, eq_self, bM_l, bM_r, rsM_l, rsM_r, seV_l, seV_r, snE_l, snE_r, up1_at, up1_up1, up2_up2, not_false_eq_true, not_true_eq_false, and_true, true_and, and_false, false_and, and_self, ↓reduceIte, or_true, true_or, or_self, or_false, false_or]; rfl))
set_option maxHeartbeats 4000000 in
set_option maxRecDepth 100000 in
theorem c_X6_water (l : Launch) (hlf : l.stackTraces = false) (g : GC) (M : HM) (q : Nat) (md : FL) (v : Int32) (hW : MdAt g M q md) (hI : mOk (md 0)) (hu : unOk md) : KM g l yX6_water cX6_water 2 (some .int) 3 0 0 [.ref q, .int v] M (.inl (some (.int (seV (waM (md 0) v))), (putD g M q (snE md (waM (md 0) v))))) := by
  refine k_meth hlf (by decide) (Nat.le_of_ble_eq_true rfl) fun p e s m below meth c ls hc hr hnx hM hS hl => ?_
  have hc : Cx g p l s m [.ref q, .int v].toArray meth c cX6_water 2 RX6 := hc
  have hx := hc.1
  have hb := hc.2.1
  have hl : lv_has ls 2 [(0, .ref q), (1, .int v)] := hl
  refine lv_aload_n hx hb dX6_water_0 rfl (lv_at hl 0 rfl) ?_
  refine k_V0 hc [] cw_X6_77 rfl dX6_water_1 (c_X6_tries l hlf g _ q md hW) hW.o hM hS hl.1 rfl rfl ⟨Nat.le_of_ble_eq_true rfl, Nat.le_of_ble_eq_true rfl⟩ ⟨Nat.le_of_ble_eq_true rfl, Nat.le_of_ble_eq_true rfl⟩ (Nat.le_of_ble_eq_true rfl) (fun H locs hM hS => ?_)
  have hW := MdAt.put (g := g) (M := M) (m := q) (md := (trM md))
  refine lv_iload_n hx hb dX6_water_4 rfl (lv_at hl 1 rfl) ?_
  refine lv_iconst (v := 1) hx hb dX6_water_5 (by decide) ?_
  refine lv_bipush (v := 100) hx hb dX6_water_6 (by decide) ?_
  refine k_S1 hc [.int v, .int 1, .int 100] cw_X6_64 dX6_water_8 (c_X6_in l hlf g _ v 1 100) hM hS hl.1 rfl rfl ⟨Nat.le_of_ble_eq_true rfl, Nat.le_of_ble_eq_true rfl⟩ ⟨Nat.le_of_ble_eq_true rfl, Nat.le_of_ble_eq_true rfl⟩ (Nat.le_of_ble_eq_true rfl) (fun H locs hM hS => ?_)
  refine lv_if_ne (tgt := 25) hx hb dX6_water_11 (by decide) (fun c_11 => ?_) (fun c_11 => ?_)
  · skip
    have c_11 := bI_ne.mp c_11
    refine lv_aload_n hx hb dX6_water_25 rfl (lv_at hl 0 rfl) ?_
    refine gt_X6_9 hc dX6_water_26 hM hW.o rfl ?_
    refine lv_bipush (v := 6) hx hb dX6_water_29 (by decide) ?_
    refine k_ialdN hc hM (n := 81) (hW.ar 0 (by decide) (by decide) rfl rfl) (X := 6) rfl (by omega) (by decide) dX6_water_31 ?_
    refine lv_iload_n hx hb dX6_water_32 rfl (lv_at hl 1 rfl) ?_
    refine lv_iadd hx hb dX6_water_33 ?_
    refine lv_sipush (v := 200) hx hb dX6_water_34 (by decide) ?_
    refine lv_icmp_le (tgt := 53) hx hb dX6_water_37 (by decide) (fun c_37 => ?_) (fun c_37 => ?_)
    · skip
      refine lv_aload_n hx hb dX6_water_53 rfl (lv_at hl 0 rfl) ?_
      refine gt_X6_9 hc dX6_water_54 hM hW.o rfl ?_
      refine lv_bipush (v := 6) hx hb dX6_water_57 (by decide) ?_
      refine lv_dup2_11 hx hb dX6_water_59 rfl rfl ?_
      refine k_ialdN hc hM (n := 81) (hW.ar 0 (by decide) (by decide) rfl rfl) (X := 6) rfl (by omega) (by decide) dX6_water_60 ?_
      refine lv_iload_n hx hb dX6_water_61 rfl (lv_at hl 1 rfl) ?_
      refine lv_iadd hx hb dX6_water_62 ?_
      refine k_iastN hc hM hS (n := 81) (hW.ar 0 (by decide) (by decide) rfl rfl) (X := 6) rfl (by omega) (by decide) dX6_water_63 (fun H locs hM hS => ?_)
      have hM := hR.eq hM (putD_ar hW 0 (by decide) (by decide) rfl rfl)
      have hM := hR.eq hM putD_putD
      have hW := MdAt.put (g := g) (M := M) (m := q) (md := (up1 (trM md) 0 (upd ((trM md) 0) 6 ((((trM md) 0) 6) + v))))
      refine lv_aload_n hx hb dX6_water_64 rfl (lv_at hl 0 rfl) ?_
      refine lv_aload_n hx hb dX6_water_65 rfl (lv_at hl 0 rfl) ?_
      refine gt_X6_9 hc dX6_water_66 hM hW.o rfl ?_
      refine lv_bipush (v := 6) hx hb dX6_water_69 (by decide) ?_
      refine k_ialdN hc hM (n := 81) (hW.ar 0 (by decide) (by decide) rfl rfl) (X := 6) rfl (by omega) (by decide) dX6_water_71 ?_
      refine k_V1 hc [.int (((up1 (trM md) 0 (upd ((trM md) 0) 6 ((((trM md) 0) 6) + v))) 0) 6)] cw_X6_57 rfl dX6_water_72 (c_X6_keeps l hlf g _ q (up1 (trM md) 0 (upd ((trM md) 0) 6 ((((trM md) 0) 6) + v))) (((up1 (trM md) 0 (upd ((trM md) 0) 6 ((((trM md) 0) 6) + v))) 0) 6) hW (by first | assumption | exact hu)) hW.o hM hS hl.1 rfl rfl ⟨Nat.le_of_ble_eq_true rfl, Nat.le_of_ble_eq_true rfl⟩ ⟨Nat.le_of_ble_eq_true rfl, Nat.le_of_ble_eq_true rfl⟩ (Nat.le_of_ble_eq_true rfl) (fun H locs hM hS => ?_)
      have hM := hR.eq hM putD_putD
      have hW := MdAt.put (g := g) (M := M) (m := q) (md := (kpM (up1 (trM md) 0 (upd ((trM md) 0) 6 ((((trM md) 0) 6) + v)))))
      exact k_iret hc hr dX6_water_75 hM hS (Nat.le_of_ble_eq_true rfl) (Nat.le_of_ble_eq_true rfl) (by show (Sum.inl (some (.int (seV (waM ((trM md) 0) v))), putD g M q (snE md (waM ((trM md) 0) v))) : Rs) = _; first | (simp only [waM, eq_true c_11, eq_true c_37, eq_self, bM_l, bM_r, rsM_l, rsM_r, seV_l, seV_r, snE_l, snE_r, up1_at, up1_up1, up2_up2, not_false_eq_true, not_true_eq_false, and_true, true_and, and_false, false_and, and_self, ↓reduceIte, or_true, true_or, or_self, or_false, false_or]; done) | (simp only [waM, eq_true c_11, eq_true c_37, eq_self, bM_l, bM_r, rsM_l, rsM_r, seV_l, seV_r, snE_l, snE_r, up1_at, up1_up1, up2_up2, not_false_eq_true, not_true_eq_false, and_true, true_and, and_false, false_and, and_self, ↓reduceIte, or_true, true_or, or_self, or_false, false_or]; rfl))
    · skip
      refine lv_aload_n hx hb dX6_water_40 rfl (lv_at hl 0 rfl) ?_
      refine lv_aload_n hx hb dX6_water_41 rfl (lv_at hl 0 rfl) ?_
      refine lv_iconst (v := 2) hx hb dX6_water_42 (by decide) ?_
      refine lv_sipush (v := 200) hx hb dX6_water_43 (by decide) ?_
      refine k_V1 hc [.int 2, .int 200] cw_X6_80 rfl dX6_water_46 (c_X6_refuses l hlf g _ q (trM md) 2 200 hW) hW.o hM hS hl.1 rfl rfl ⟨Nat.le_of_ble_eq_true rfl, Nat.le_of_ble_eq_true rfl⟩ ⟨Nat.le_of_ble_eq_true rfl, Nat.le_of_ble_eq_true rfl⟩ (Nat.le_of_ble_eq_true rfl) (fun H locs hM hS => ?_)
      have hM := hR.eq hM putD_putD
      have hW := MdAt.put (g := g) (M := M) (m := q) (md := (rfM (trM md) 2 200))
      refine k_V1 hc [.int 0] cw_X6_84 rfl dX6_water_49 (c_X6_ends l hlf g _ q (rfM (trM md) 2 200) 0 hW (by first | assumption | exact hu)) hW.o hM hS hl.1 rfl rfl ⟨Nat.le_of_ble_eq_true rfl, Nat.le_of_ble_eq_true rfl⟩ ⟨Nat.le_of_ble_eq_true rfl, Nat.le_of_ble_eq_true rfl⟩ (Nat.le_of_ble_eq_true rfl) (fun H locs hM hS => ?_)
      have hM := hR.eq hM putD_putD
      have hW := MdAt.put (g := g) (M := M) (m := q) (md := (if 0 = 0 then up2 (rfM (trM md) 2 200) 7 19 1 else kpM (rfM (trM md) 2 200)))
      exact k_iret hc hr dX6_water_52 hM hS (Nat.le_of_ble_eq_true rfl) (Nat.le_of_ble_eq_true rfl) (by show (Sum.inl (some (.int (seV (waM ((trM md) 0) v))), putD g M q (snE md (waM ((trM md) 0) v))) : Rs) = _; first | (simp only [waM, eq_true c_11, eq_false c_37, eq_self, bM_l, bM_r, rsM_l, rsM_r, seV_l, seV_r, snE_l, snE_r, up1_at, up1_up1, up2_up2, not_false_eq_true, not_true_eq_false, and_true, true_and, and_false, false_and, and_self, ↓reduceIte, or_true, true_or, or_self, or_false, false_or]; done) | (simp only [waM, eq_true c_11, eq_false c_37, eq_self, bM_l, bM_r, rsM_l, rsM_r, seV_l, seV_r, snE_l, snE_r, up1_at, up1_up1, up2_up2, not_false_eq_true, not_true_eq_false, and_true, true_and, and_false, false_and, and_self, ↓reduceIte, or_true, true_or, or_self, or_false, false_or]; rfl))
  · skip
    have c_11 := bI_eq.mp c_11
    refine lv_aload_n hx hb dX6_water_14 rfl (lv_at hl 0 rfl) ?_
    refine lv_aload_n hx hb dX6_water_15 rfl (lv_at hl 0 rfl) ?_
    refine lv_iconst (v := 1) hx hb dX6_water_16 (by decide) ?_
    refine lv_iconst (v := 0) hx hb dX6_water_17 (by decide) ?_
    refine k_V1 hc [.int 1, .int 0] cw_X6_80 rfl dX6_water_18 (c_X6_refuses l hlf g _ q (trM md) 1 0 hW) hW.o hM hS hl.1 rfl rfl ⟨Nat.le_of_ble_eq_true rfl, Nat.le_of_ble_eq_true rfl⟩ ⟨Nat.le_of_ble_eq_true rfl, Nat.le_of_ble_eq_true rfl⟩ (Nat.le_of_ble_eq_true rfl) (fun H locs hM hS => ?_)
    have hM := hR.eq hM putD_putD
    have hW := MdAt.put (g := g) (M := M) (m := q) (md := (rfM (trM md) 1 0))
    refine k_V1 hc [.int 0] cw_X6_84 rfl dX6_water_21 (c_X6_ends l hlf g _ q (rfM (trM md) 1 0) 0 hW (by first | assumption | exact hu)) hW.o hM hS hl.1 rfl rfl ⟨Nat.le_of_ble_eq_true rfl, Nat.le_of_ble_eq_true rfl⟩ ⟨Nat.le_of_ble_eq_true rfl, Nat.le_of_ble_eq_true rfl⟩ (Nat.le_of_ble_eq_true rfl) (fun H locs hM hS => ?_)
    have hM := hR.eq hM putD_putD
    have hW := MdAt.put (g := g) (M := M) (m := q) (md := (if 0 = 0 then up2 (rfM (trM md) 1 0) 7 19 1 else kpM (rfM (trM md) 1 0)))
    exact k_iret hc hr dX6_water_24 hM hS (Nat.le_of_ble_eq_true rfl) (Nat.le_of_ble_eq_true rfl) (by show (Sum.inl (some (.int (seV (waM ((trM md) 0) v))), putD g M q (snE md (waM ((trM md) 0) v))) : Rs) = _; first | (simp only [waM, eq_false c_11, eq_self, bM_l, bM_r, rsM_l, rsM_r, seV_l, seV_r, snE_l, snE_r, up1_at, up1_up1, up2_up2, not_false_eq_true, not_true_eq_false, and_true, true_and, and_false, false_and, and_self, ↓reduceIte, or_true, true_or, or_self, or_false, false_or]; done) | (simp only [waM, eq_false c_11, eq_self, bM_l, bM_r, rsM_l, rsM_r, seV_l, seV_r, snE_l, snE_r, up1_at, up1_up1, up2_up2, not_false_eq_true, not_true_eq_false, and_true, true_and, and_false, false_and, and_self, ↓reduceIte, or_true, true_or, or_self, or_false, false_or]; rfl))
