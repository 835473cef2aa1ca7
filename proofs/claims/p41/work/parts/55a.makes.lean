/-! makes(o, s) -/
def St6 (ns : Nat) (c : CS) : Prop := ∀ k, k < ns → ∃ r, r < 16 ∧ c 0 0 k = nI (16 * k + r)
def Mk (ns np nh nc t : Nat) (c : CS) : Prop := ∃ dh cu nx sz : Nat, FI ns np nh nc t dh cu (c 0) ∧ Aux c ∧ Rg nx sz c ∧ St6 ns c
theorem Mk.ok {ns np nh nc t : Nat} {c : CS} (h : Mk ns np nh nc t c) : nxOk c := by
  obtain ⟨_, _, _, _, _, _, h, _⟩ := h
  exact h.ok
theorem St6.of {ns : Nat} {a b : CS} (h : St6 ns a) (e : b 0 0 = a 0 0) : St6 ns b := fun k hk => by rw [e]; exact h k hk
theorem St6.ne {ns : Nat} {c : CS} (h : St6 ns c) {j r : Nat} (hj : j < 6) (hr : r < 16) {k : Nat} (hk : k < ns) (hk6 : k < 6) (hkj : k ≠ j) : ¬ c 0 0 k = nI (16 * j + r) := by
  obtain ⟨q, hq, e⟩ := h k hk
  rw [e]
  intro h
  have h9 := congrArg Int32.toNatClampNeg h
  rw [nI_clamp (by omega), nI_clamp (by omega)] at h9
  omega
theorem mk_stake {ns np nh nc t r : Nat} {c : CS} (h : Mk ns np nh nc t c) (hn : ns < 6) (hr : r < 16) : v_stake c (nI (16 * ns + r)) = nI ns ∧ Mk (ns + 1) np nh nc t (s_stake c (nI (16 * ns + r))) := by
  obtain ⟨dh, cu, nx, sz, hF, hA, hR, hS⟩ := h
  have e := ds_ok (a := 16 * ns + r) hF (by omega) (by omega) (fun k hk => hS.ne hn hr hk (by omega) (by omega))
  obtain ⟨e1, s1, s2, s3, s4, s5, s6, s7⟩ := op_suc (w := ns) (fl := upR (c 0) 0 (nI (ns + 1)) (upd (c 0 0) ns (nI (16 * ns + r)))) (by omega) hA hR
  have ev : v_stake c (nI (16 * ns + r)) = vO (dsO (c 0) (nI (16 * ns + r))) := rfl
  have es : s_stake c (nI (16 * ns + r)) = sO c (dsO (c 0) (nI (16 * ns + r))) := rfl
  rw [ev, es, e]
  refine ⟨e1, dh, cu, _, _, by rw [s1]; exact hF.stake (by omega) (by omega), s4, s7, fun k hk => ?_⟩
  rw [s1, upR_r (by omega)]
  by_cases hkn : k = ns
  · subst hkn; exact ⟨r, hr, upd_at⟩
  · rw [upd_ne hkn]; exact hS k (by omega)

theorem mk_post {ns np nh nc t a y : Nat} {c : CS} (h : Mk ns np nh nc t c) (hn : np < 4) (ha : a < 100) (hy1 : 1 ≤ y) (hy2 : y ≤ 9) : v_post c (nI a) (nI y) = nI np ∧ Mk ns (np + 1) nh nc t (s_post c (nI a) (nI y)) := by
  obtain ⟨dh, cu, nx, sz, hF, hA, hR, hS⟩ := h
  obtain ⟨fl', e, hF2, e0⟩ := sp_ok hF hn ha hy1 hy2
  obtain ⟨e1, s1, s2, s3, s4, s5, s6, s7⟩ := op_suc (w := np) (fl := fl') (by omega) hA hR
  have ev : v_post c (nI a) (nI y) = vO (spO (c 0) (nI a) (nI y)) := rfl
  have es : s_post c (nI a) (nI y) = sO c (spO (c 0) (nI a) (nI y)) := rfl
  rw [ev, es, e]
  refine ⟨e1, _, _, _, _, by rw [s1]; exact hF2, s4, s7, hS.of (by rw [s1]; exact e0)⟩

theorem mk_camel {ns np nh nc t a : Nat} {c : CS} (h : Mk ns np nh nc t c) (hn : nc < 6) (ha : a < 100) : v_camel c (nI a) = nI nc ∧ Mk ns np nh (nc + 1) t (s_camel c (nI a)) := by
  obtain ⟨dh, cu, nx, sz, hF, hA, hR, hS⟩ := h
  obtain ⟨fl', e, hF2, e0⟩ := ca_ok hF hn ha
  obtain ⟨e1, s1, s2, s3, s4, s5, s6, s7⟩ := op_suc (w := nc) (fl := fl') (by omega) hA hR
  have ev : v_camel c (nI a) = vO (caO (c 0) (nI a)) := rfl
  have es : s_camel c (nI a) = sO c (caO (c 0) (nI a)) := rfl
  rw [ev, es, e]
  refine ⟨e1, _, _, _, _, by rw [s1]; exact hF2, s4, s7, hS.of (by rw [s1]; exact e0)⟩

theorem mk_sheet {ns np nh nc t : Nat} {c : CS} (h : Mk ns np nh nc t c) (hn : nh < 3) : v_sheet c = nI nh ∧ Mk ns np (nh + 1) nc t (s_sheet c) := by
  obtain ⟨dh, cu, nx, sz, hF, hA, hR, hS⟩ := h
  have e := as_ok hF hn
  have hF2 := hF.sheet hn
  have e0 : (up2 (c 0) 9 0 (c 0 9 0 + 1)) 0 = c 0 0 := rfl
  generalize up2 (c 0) 9 0 (c 0 9 0 + 1) = fl' at e hF2 e0
  obtain ⟨e1, s1, s2, s3, s4, s5, s6, s7⟩ := op_suc (w := nh) (fl := fl') (by omega) hA hR
  have ev : v_sheet c = vO (asO (c 0)) := rfl
  have es : s_sheet c = sO c (asO (c 0)) := rfl
  rw [ev, es, e]
  refine ⟨e1, _, _, _, _, by rw [s1]; exact hF2, s4, s7, hS.of (by rw [s1]; exact e0)⟩

theorem mk_heat {ns np nh nc t y : Nat} {c : CS} (h : Mk ns np nh nc t c) (hy : y ≤ 9) (ht : t = 0) : v_heat c (nI y) = 0 ∧ Mk ns np nh nc t (s_heat c (nI y)) := by
  obtain ⟨dh, cu, nx, sz, hF, hA, hR, hS⟩ := h
  have e := sh_ok hF hy
  have hF2 := hF.dayHeat hy
  have e0 : (up2 (c 0) 9 2 (nI y)) 0 = c 0 0 := rfl
  generalize up2 (c 0) 9 2 (nI y) = fl' at e hF2 e0
  obtain ⟨e1, s1, s2, s3, s4, s5, s6, s7⟩ := op_suc (w := hT y t) (fl := fl') (by rw [ht]; show y * 0 / 6 < _; omega) hA hR
  have ev : v_heat c (nI y) = vO (shO (c 0) (nI y)) := rfl
  have es : s_heat c (nI y) = sO c (shO (c 0) (nI y)) := rfl
  rw [ev, es, e]
  refine ⟨(by rw [e1, ht]; show nI (y * 0 / 6) = 0; rw [Nat.mul_zero]; rfl), _, _, _, _, by rw [s1]; exact hF2, s4, s7, hS.of (by rw [s1]; exact e0)⟩

theorem mk_hours {ns np nh nc t y : Nat} {c : CS} (h : Mk ns np nh nc t c) (hy1 : 1 ≤ y) (hy2 : y ≤ 48) (ht : t + y < 2 ^ 30) : (∃ v, v < 2 ^ 31 ∧ v_hours c (nI y) = nI v) ∧ Mk ns np nh nc (t + y) (s_hours c (nI y)) := by
  obtain ⟨dh, cu, nx, sz, hF, hA, hR, hS⟩ := h
  obtain ⟨v, fl', hv, e, hF2, e0⟩ := ph_ok hF hy1 hy2 ht
  obtain ⟨e1, s1, s2, s3, s4, s5, s6, s7⟩ := op_suc (w := v) (fl := fl') hv hA hR
  have ev : v_hours c (nI y) = vO (phO (c 0) (nI y)) := rfl
  have es : s_hours c (nI y) = sO c (phO (c 0) (nI y)) := rfl
  rw [ev, es, e]
  refine ⟨⟨v, hv, e1⟩, _, _, _, _, by rw [s1]; exact hF2, s4, s7, hS.of (by rw [s1]; exact e0)⟩

set_option maxHeartbeats 4000000 in
set_option maxRecDepth 100000 in
theorem c_L_makes (l : Launch) (hlf : l.stackTraces = false) (g : GC) (M : HM) (x : Nat) (cs : CS) (hW : ClsAt g M x cs) (hk0 : Mk 0 0 0 0 0 cs) : KMv g l yL_makes cL_makes 3 (some .boolean) 11 40 240 [.ref x, .ref (gSb g)] M (fun v M1 => v = .int 1 ∧ ∃ (c' : CS) (t : Nat), t ≤ 20 ∧ M1 = putC g M x c' ∧ Mk 6 3 2 5 t c') := by
  refine k_methv hlf (by decide) (Nat.le_of_ble_eq_true rfl) fun p e s m below meth c ls hc hr hnx9 hM hS hl => ?_
  have hc : Cx g p l s m [.ref x, .ref (gSb g)].toArray meth c cL_makes 3 RL := hc
  have hx := hc.1
  have hb := hc.2.1
  have hl : lv_has ls 3 [(0, .ref x), (1, .ref (gSb g))] := hl
  refine lv_iconst (v := 0) hx hb dL_makes_0 (by decide) ?_
  refine lv_istore_n (lv' := [(2, .int 0), (0, .ref x), (1, .ref (gSb g))]) hx hb dL_makes_1 rfl hl (by decide) rfl (fun ls hl => ?_)
  refine lv_iload_n hx hb dL_makes_2 rfl (lv_at hl 0 rfl) ?_
  refine lv_bipush (v := 6) hx hb dL_makes_3 (by decide) ?_
  refine lv_icmp_ge (tgt := 39) hx hb dL_makes_5 (by decide) (fun c_5 => absurd c_5 (by decide)) (fun c_5 => ?_)
  refine lv_aload_n hx hb dL_makes_8 rfl (lv_at hl 1 rfl) ?_
  refine lv_bipush (v := 16) hx hb dL_makes_9 (by decide) ?_
  refine lv_iload_n hx hb dL_makes_11 rfl (lv_at hl 0 rfl) ?_
  refine lv_imul hx hb dL_makes_12 ?_
  refine lv_aload_n hx hb dL_makes_13 rfl (lv_at hl 2 rfl) ?_
  refine lv_iload_n hx hb dL_makes_14 rfl (lv_at hl 0 rfl) ?_
  refine k_S1 hc [.ref (gSb g), .int 0] cw_L_165 dL_makes_15 (c_L_at l hlf g _ 0 (by omega)) hM hS hl.1 rfl rfl ⟨Nat.le_of_ble_eq_true rfl, Nat.le_of_ble_eq_true rfl⟩ ⟨Nat.le_of_ble_eq_true rfl, Nat.le_of_ble_eq_true rfl⟩ (Nat.le_of_ble_eq_true rfl) (fun H locs hM hS => ?_)
  refine lv_bipush (v := 16) hx hb dL_makes_18 (by decide) ?_
  refine k_S1 hc [.int (atV g 0), .int 16] cw_L_169 dL_makes_20 (c_L_some l hlf g _ (atV g 0) 16 (by decide)) hM hS hl.1 rfl rfl ⟨Nat.le_of_ble_eq_true rfl, Nat.le_of_ble_eq_true rfl⟩ ⟨Nat.le_of_ble_eq_true rfl, Nat.le_of_ble_eq_true rfl⟩ (Nat.le_of_ble_eq_true rfl) (fun H locs hM hS => ?_)
  obtain ⟨r1, hr1, er1⟩ := smF_b (atV g 0) (N := 16) (by omega) (by omega)
  have er1 : smF (atV g 0) 16 = nI r1 := er1
  rw [er1]
  clear er1
  refine lv_iadd hx hb dL_makes_23 ?_
  rw [show ((16 * 0 : Int32) + (nI r1)) = nI (16 * 0 + r1) from nI_add _ _]
  have k2 := h_stake l hlf g M x cs (nI (16 * 0 + r1)) hW hk0.ok
  obtain ⟨q2, hk1⟩ := mk_stake hk0 (by omega) (by assumption)
  obtain ⟨c2, ec2⟩ : ∃ c9, s_stake cs (nI (16 * 0 + r1)) = c9 := ⟨_, rfl⟩
  rw [ec2] at k2
  rw [ec2] at hk1
  clear ec2
  rw [show v_stake cs (nI (16 * 0 + r1)) = 0 from q2] at k2
  refine k_SX1 hc [.ref x, .int (nI (16 * 0 + r1))] cw_L_172 dL_makes_24 k2 hM hS hl.1 rfl rfl ⟨Nat.le_of_ble_eq_true rfl, Nat.le_of_ble_eq_true rfl⟩ ⟨Nat.le_of_ble_eq_true rfl, Nat.le_of_ble_eq_true rfl⟩ (Nat.le_of_ble_eq_true rfl) (fun H locs hM hS => ?_)
  refine lv_iload_n hx hb dL_makes_27 rfl (lv_at hl 0 rfl) ?_
  refine lv_icmp_eq (tgt := 33) hx hb dL_makes_28 (by decide) (fun c_28 => ?_) (fun c_28 => absurd c_28 (by decide))
  refine lv_iinc (v := 1) (lv' := [(2, .int 1), (0, .ref x), (1, .ref (gSb g))]) hx hb dL_makes_33 hl (k := 0) rfl (by decide) (by decide) rfl (fun ls hl => ?_)
  refine lv_goto (tgt := 2) hx hb dL_makes_36 (by decide) ?_
  refine lv_iload_n hx hb dL_makes_2 rfl (lv_at hl 0 rfl) ?_
  refine lv_bipush (v := 6) hx hb dL_makes_3 (by decide) ?_
  refine lv_icmp_ge (tgt := 39) hx hb dL_makes_5 (by decide) (fun c_5 => absurd c_5 (by decide)) (fun c_5 => ?_)
  refine lv_aload_n hx hb dL_makes_8 rfl (lv_at hl 1 rfl) ?_
  refine lv_bipush (v := 16) hx hb dL_makes_9 (by decide) ?_
  refine lv_iload_n hx hb dL_makes_11 rfl (lv_at hl 0 rfl) ?_
  refine lv_imul hx hb dL_makes_12 ?_
  refine lv_aload_n hx hb dL_makes_13 rfl (lv_at hl 2 rfl) ?_
  refine lv_iload_n hx hb dL_makes_14 rfl (lv_at hl 0 rfl) ?_
  refine k_S1 hc [.ref (gSb g), .int 1] cw_L_165 dL_makes_15 (c_L_at l hlf g _ 1 (by omega)) hM hS hl.1 rfl rfl ⟨Nat.le_of_ble_eq_true rfl, Nat.le_of_ble_eq_true rfl⟩ ⟨Nat.le_of_ble_eq_true rfl, Nat.le_of_ble_eq_true rfl⟩ (Nat.le_of_ble_eq_true rfl) (fun H locs hM hS => ?_)
  refine lv_bipush (v := 16) hx hb dL_makes_18 (by decide) ?_
  refine k_S1 hc [.int (atV g 1), .int 16] cw_L_169 dL_makes_20 (c_L_some l hlf g _ (atV g 1) 16 (by decide)) hM hS hl.1 rfl rfl ⟨Nat.le_of_ble_eq_true rfl, Nat.le_of_ble_eq_true rfl⟩ ⟨Nat.le_of_ble_eq_true rfl, Nat.le_of_ble_eq_true rfl⟩ (Nat.le_of_ble_eq_true rfl) (fun H locs hM hS => ?_)
  obtain ⟨r3, hr3, er3⟩ := smF_b (atV g 1) (N := 16) (by omega) (by omega)
  have er3 : smF (atV g 1) 16 = nI r3 := er3
  rw [er3]
  clear er3
  refine lv_iadd hx hb dL_makes_23 ?_
  rw [show ((16 * 1 : Int32) + (nI r3)) = nI (16 * 1 + r3) from nI_add _ _]
  have k4 := h_stake l hlf g (putC g M x c2) x c2 (nI (16 * 1 + r3)) ClsAt.put hk1.ok
  obtain ⟨q4, hk2⟩ := mk_stake hk1 (by omega) (by assumption)
  obtain ⟨c4, ec4⟩ : ∃ c9, s_stake c2 (nI (16 * 1 + r3)) = c9 := ⟨_, rfl⟩
  rw [ec4, putC_putC] at k4
  rw [ec4] at hk2
  clear ec4
  rw [show v_stake c2 (nI (16 * 1 + r3)) = 1 from q4] at k4
  refine k_SX1 hc [.ref x, .int (nI (16 * 1 + r3))] cw_L_172 dL_makes_24 k4 hM hS hl.1 rfl rfl ⟨Nat.le_of_ble_eq_true rfl, Nat.le_of_ble_eq_true rfl⟩ ⟨Nat.le_of_ble_eq_true rfl, Nat.le_of_ble_eq_true rfl⟩ (Nat.le_of_ble_eq_true rfl) (fun H locs hM hS => ?_)
  refine lv_iload_n hx hb dL_makes_27 rfl (lv_at hl 0 rfl) ?_
  refine lv_icmp_eq (tgt := 33) hx hb dL_makes_28 (by decide) (fun c_28 => ?_) (fun c_28 => absurd c_28 (by decide))
  refine lv_iinc (v := 2) (lv' := [(2, .int 2), (0, .ref x), (1, .ref (gSb g))]) hx hb dL_makes_33 hl (k := 0) rfl (by decide) (by decide) rfl (fun ls hl => ?_)
  refine lv_goto (tgt := 2) hx hb dL_makes_36 (by decide) ?_
  refine lv_iload_n hx hb dL_makes_2 rfl (lv_at hl 0 rfl) ?_
  refine lv_bipush (v := 6) hx hb dL_makes_3 (by decide) ?_
  refine lv_icmp_ge (tgt := 39) hx hb dL_makes_5 (by decide) (fun c_5 => absurd c_5 (by decide)) (fun c_5 => ?_)
  refine lv_aload_n hx hb dL_makes_8 rfl (lv_at hl 1 rfl) ?_
  refine lv_bipush (v := 16) hx hb dL_makes_9 (by decide) ?_
  refine lv_iload_n hx hb dL_makes_11 rfl (lv_at hl 0 rfl) ?_
  refine lv_imul hx hb dL_makes_12 ?_
  refine lv_aload_n hx hb dL_makes_13 rfl (lv_at hl 2 rfl) ?_
  refine lv_iload_n hx hb dL_makes_14 rfl (lv_at hl 0 rfl) ?_
  refine k_S1 hc [.ref (gSb g), .int 2] cw_L_165 dL_makes_15 (c_L_at l hlf g _ 2 (by omega)) hM hS hl.1 rfl rfl ⟨Nat.le_of_ble_eq_true rfl, Nat.le_of_ble_eq_true rfl⟩ ⟨Nat.le_of_ble_eq_true rfl, Nat.le_of_ble_eq_true rfl⟩ (Nat.le_of_ble_eq_true rfl) (fun H locs hM hS => ?_)
  refine lv_bipush (v := 16) hx hb dL_makes_18 (by decide) ?_
  refine k_S1 hc [.int (atV g 2), .int 16] cw_L_169 dL_makes_20 (c_L_some l hlf g _ (atV g 2) 16 (by decide)) hM hS hl.1 rfl rfl ⟨Nat.le_of_ble_eq_true rfl, Nat.le_of_ble_eq_true rfl⟩ ⟨Nat.le_of_ble_eq_true rfl, Nat.le_of_ble_eq_true rfl⟩ (Nat.le_of_ble_eq_true rfl) (fun H locs hM hS => ?_)
  obtain ⟨r5, hr5, er5⟩ := smF_b (atV g 2) (N := 16) (by omega) (by omega)
  have er5 : smF (atV g 2) 16 = nI r5 := er5
  rw [er5]
  clear er5
  refine lv_iadd hx hb dL_makes_23 ?_
  rw [show ((16 * 2 : Int32) + (nI r5)) = nI (16 * 2 + r5) from nI_add _ _]
  have k6 := h_stake l hlf g (putC g M x c4) x c4 (nI (16 * 2 + r5)) ClsAt.put hk2.ok
  obtain ⟨q6, hk3⟩ := mk_stake hk2 (by omega) (by assumption)
  obtain ⟨c6, ec6⟩ : ∃ c9, s_stake c4 (nI (16 * 2 + r5)) = c9 := ⟨_, rfl⟩
  rw [ec6, putC_putC] at k6
  rw [ec6] at hk3
  clear ec6
  rw [show v_stake c4 (nI (16 * 2 + r5)) = 2 from q6] at k6
  refine k_SX1 hc [.ref x, .int (nI (16 * 2 + r5))] cw_L_172 dL_makes_24 k6 hM hS hl.1 rfl rfl ⟨Nat.le_of_ble_eq_true rfl, Nat.le_of_ble_eq_true rfl⟩ ⟨Nat.le_of_ble_eq_true rfl, Nat.le_of_ble_eq_true rfl⟩ (Nat.le_of_ble_eq_true rfl) (fun H locs hM hS => ?_)
  refine lv_iload_n hx hb dL_makes_27 rfl (lv_at hl 0 rfl) ?_
  refine lv_icmp_eq (tgt := 33) hx hb dL_makes_28 (by decide) (fun c_28 => ?_) (fun c_28 => absurd c_28 (by decide))
  refine lv_iinc (v := 3) (lv' := [(2, .int 3), (0, .ref x), (1, .ref (gSb g))]) hx hb dL_makes_33 hl (k := 0) rfl (by decide) (by decide) rfl (fun ls hl => ?_)
  refine lv_goto (tgt := 2) hx hb dL_makes_36 (by decide) ?_
  refine lv_iload_n hx hb dL_makes_2 rfl (lv_at hl 0 rfl) ?_
  refine lv_bipush (v := 6) hx hb dL_makes_3 (by decide) ?_
  refine lv_icmp_ge (tgt := 39) hx hb dL_makes_5 (by decide) (fun c_5 => absurd c_5 (by decide)) (fun c_5 => ?_)
  refine lv_aload_n hx hb dL_makes_8 rfl (lv_at hl 1 rfl) ?_
  refine lv_bipush (v := 16) hx hb dL_makes_9 (by decide) ?_
  refine lv_iload_n hx hb dL_makes_11 rfl (lv_at hl 0 rfl) ?_
  refine lv_imul hx hb dL_makes_12 ?_
  refine lv_aload_n hx hb dL_makes_13 rfl (lv_at hl 2 rfl) ?_
  refine lv_iload_n hx hb dL_makes_14 rfl (lv_at hl 0 rfl) ?_
  refine k_S1 hc [.ref (gSb g), .int 3] cw_L_165 dL_makes_15 (c_L_at l hlf g _ 3 (by omega)) hM hS hl.1 rfl rfl ⟨Nat.le_of_ble_eq_true rfl, Nat.le_of_ble_eq_true rfl⟩ ⟨Nat.le_of_ble_eq_true rfl, Nat.le_of_ble_eq_true rfl⟩ (Nat.le_of_ble_eq_true rfl) (fun H locs hM hS => ?_)
  refine lv_bipush (v := 16) hx hb dL_makes_18 (by decide) ?_
  refine k_S1 hc [.int (atV g 3), .int 16] cw_L_169 dL_makes_20 (c_L_some l hlf g _ (atV g 3) 16 (by decide)) hM hS hl.1 rfl rfl ⟨Nat.le_of_ble_eq_true rfl, Nat.le_of_ble_eq_true rfl⟩ ⟨Nat.le_of_ble_eq_true rfl, Nat.le_of_ble_eq_true rfl⟩ (Nat.le_of_ble_eq_true rfl) (fun H locs hM hS => ?_)
  obtain ⟨r7, hr7, er7⟩ := smF_b (atV g 3) (N := 16) (by omega) (by omega)
  have er7 : smF (atV g 3) 16 = nI r7 := er7
  rw [er7]
  clear er7
  refine lv_iadd hx hb dL_makes_23 ?_
  rw [show ((16 * 3 : Int32) + (nI r7)) = nI (16 * 3 + r7) from nI_add _ _]
  have k8 := h_stake l hlf g (putC g M x c6) x c6 (nI (16 * 3 + r7)) ClsAt.put hk3.ok
  obtain ⟨q8, hk4⟩ := mk_stake hk3 (by omega) (by assumption)
  obtain ⟨c8, ec8⟩ : ∃ c9, s_stake c6 (nI (16 * 3 + r7)) = c9 := ⟨_, rfl⟩
  rw [ec8, putC_putC] at k8
  rw [ec8] at hk4
  clear ec8
  rw [show v_stake c6 (nI (16 * 3 + r7)) = 3 from q8] at k8
  refine k_SX1 hc [.ref x, .int (nI (16 * 3 + r7))] cw_L_172 dL_makes_24 k8 hM hS hl.1 rfl rfl ⟨Nat.le_of_ble_eq_true rfl, Nat.le_of_ble_eq_true rfl⟩ ⟨Nat.le_of_ble_eq_true rfl, Nat.le_of_ble_eq_true rfl⟩ (Nat.le_of_ble_eq_true rfl) (fun H locs hM hS => ?_)
  refine lv_iload_n hx hb dL_makes_27 rfl (lv_at hl 0 rfl) ?_
  refine lv_icmp_eq (tgt := 33) hx hb dL_makes_28 (by decide) (fun c_28 => ?_) (fun c_28 => absurd c_28 (by decide))
  refine lv_iinc (v := 4) (lv' := [(2, .int 4), (0, .ref x), (1, .ref (gSb g))]) hx hb dL_makes_33 hl (k := 0) rfl (by decide) (by decide) rfl (fun ls hl => ?_)
  refine lv_goto (tgt := 2) hx hb dL_makes_36 (by decide) ?_
  refine lv_iload_n hx hb dL_makes_2 rfl (lv_at hl 0 rfl) ?_
  refine lv_bipush (v := 6) hx hb dL_makes_3 (by decide) ?_
  refine lv_icmp_ge (tgt := 39) hx hb dL_makes_5 (by decide) (fun c_5 => absurd c_5 (by decide)) (fun c_5 => ?_)
  refine lv_aload_n hx hb dL_makes_8 rfl (lv_at hl 1 rfl) ?_
  refine lv_bipush (v := 16) hx hb dL_makes_9 (by decide) ?_
  refine lv_iload_n hx hb dL_makes_11 rfl (lv_at hl 0 rfl) ?_
  refine lv_imul hx hb dL_makes_12 ?_
  refine lv_aload_n hx hb dL_makes_13 rfl (lv_at hl 2 rfl) ?_
  refine lv_iload_n hx hb dL_makes_14 rfl (lv_at hl 0 rfl) ?_
  refine k_S1 hc [.ref (gSb g), .int 4] cw_L_165 dL_makes_15 (c_L_at l hlf g _ 4 (by omega)) hM hS hl.1 rfl rfl ⟨Nat.le_of_ble_eq_true rfl, Nat.le_of_ble_eq_true rfl⟩ ⟨Nat.le_of_ble_eq_true rfl, Nat.le_of_ble_eq_true rfl⟩ (Nat.le_of_ble_eq_true rfl) (fun H locs hM hS => ?_)
  refine lv_bipush (v := 16) hx hb dL_makes_18 (by decide) ?_
  refine k_S1 hc [.int (atV g 4), .int 16] cw_L_169 dL_makes_20 (c_L_some l hlf g _ (atV g 4) 16 (by decide)) hM hS hl.1 rfl rfl ⟨Nat.le_of_ble_eq_true rfl, Nat.le_of_ble_eq_true rfl⟩ ⟨Nat.le_of_ble_eq_true rfl, Nat.le_of_ble_eq_true rfl⟩ (Nat.le_of_ble_eq_true rfl) (fun H locs hM hS => ?_)
  obtain ⟨r9, hr9, er9⟩ := smF_b (atV g 4) (N := 16) (by omega) (by omega)
  have er9 : smF (atV g 4) 16 = nI r9 := er9
  rw [er9]
  clear er9
  refine lv_iadd hx hb dL_makes_23 ?_
  rw [show ((16 * 4 : Int32) + (nI r9)) = nI (16 * 4 + r9) from nI_add _ _]
  have k10 := h_stake l hlf g (putC g M x c8) x c8 (nI (16 * 4 + r9)) ClsAt.put hk4.ok
  obtain ⟨q10, hk5⟩ := mk_stake hk4 (by omega) (by assumption)
  obtain ⟨c10, ec10⟩ : ∃ c9, s_stake c8 (nI (16 * 4 + r9)) = c9 := ⟨_, rfl⟩
  rw [ec10, putC_putC] at k10
  rw [ec10] at hk5
  clear ec10
  rw [show v_stake c8 (nI (16 * 4 + r9)) = 4 from q10] at k10
  refine k_SX1 hc [.ref x, .int (nI (16 * 4 + r9))] cw_L_172 dL_makes_24 k10 hM hS hl.1 rfl rfl ⟨Nat.le_of_ble_eq_true rfl, Nat.le_of_ble_eq_true rfl⟩ ⟨Nat.le_of_ble_eq_true rfl, Nat.le_of_ble_eq_true rfl⟩ (Nat.le_of_ble_eq_true rfl) (fun H locs hM hS => ?_)
  refine lv_iload_n hx hb dL_makes_27 rfl (lv_at hl 0 rfl) ?_
  refine lv_icmp_eq (tgt := 33) hx hb dL_makes_28 (by decide) (fun c_28 => ?_) (fun c_28 => absurd c_28 (by decide))
  refine lv_iinc (v := 5) (lv' := [(2, .int 5), (0, .ref x), (1, .ref (gSb g))]) hx hb dL_makes_33 hl (k := 0) rfl (by decide) (by decide) rfl (fun ls hl => ?_)
  refine lv_goto (tgt := 2) hx hb dL_makes_36 (by decide) ?_
  refine lv_iload_n hx hb dL_makes_2 rfl (lv_at hl 0 rfl) ?_
  refine lv_bipush (v := 6) hx hb dL_makes_3 (by decide) ?_
  refine lv_icmp_ge (tgt := 39) hx hb dL_makes_5 (by decide) (fun c_5 => absurd c_5 (by decide)) (fun c_5 => ?_)
  refine lv_aload_n hx hb dL_makes_8 rfl (lv_at hl 1 rfl) ?_
  refine lv_bipush (v := 16) hx hb dL_makes_9 (by decide) ?_
  refine lv_iload_n hx hb dL_makes_11 rfl (lv_at hl 0 rfl) ?_
  refine lv_imul hx hb dL_makes_12 ?_
  refine lv_aload_n hx hb dL_makes_13 rfl (lv_at hl 2 rfl) ?_
  refine lv_iload_n hx hb dL_makes_14 rfl (lv_at hl 0 rfl) ?_
  refine k_S1 hc [.ref (gSb g), .int 5] cw_L_165 dL_makes_15 (c_L_at l hlf g _ 5 (by omega)) hM hS hl.1 rfl rfl ⟨Nat.le_of_ble_eq_true rfl, Nat.le_of_ble_eq_true rfl⟩ ⟨Nat.le_of_ble_eq_true rfl, Nat.le_of_ble_eq_true rfl⟩ (Nat.le_of_ble_eq_true rfl) (fun H locs hM hS => ?_)
  refine lv_bipush (v := 16) hx hb dL_makes_18 (by decide) ?_
  refine k_S1 hc [.int (atV g 5), .int 16] cw_L_169 dL_makes_20 (c_L_some l hlf g _ (atV g 5) 16 (by decide)) hM hS hl.1 rfl rfl ⟨Nat.le_of_ble_eq_true rfl, Nat.le_of_ble_eq_true rfl⟩ ⟨Nat.le_of_ble_eq_true rfl, Nat.le_of_ble_eq_true rfl⟩ (Nat.le_of_ble_eq_true rfl) (fun H locs hM hS => ?_)
  obtain ⟨r11, hr11, er11⟩ := smF_b (atV g 5) (N := 16) (by omega) (by omega)
  have er11 : smF (atV g 5) 16 = nI r11 := er11
  rw [er11]
  clear er11
  refine lv_iadd hx hb dL_makes_23 ?_
  rw [show ((16 * 5 : Int32) + (nI r11)) = nI (16 * 5 + r11) from nI_add _ _]
  have k12 := h_stake l hlf g (putC g M x c10) x c10 (nI (16 * 5 + r11)) ClsAt.put hk5.ok
  obtain ⟨q12, hk6⟩ := mk_stake hk5 (by omega) (by assumption)
  obtain ⟨c12, ec12⟩ : ∃ c9, s_stake c10 (nI (16 * 5 + r11)) = c9 := ⟨_, rfl⟩
  rw [ec12, putC_putC] at k12
  rw [ec12] at hk6
  clear ec12
  rw [show v_stake c10 (nI (16 * 5 + r11)) = 5 from q12] at k12
  refine k_SX1 hc [.ref x, .int (nI (16 * 5 + r11))] cw_L_172 dL_makes_24 k12 hM hS hl.1 rfl rfl ⟨Nat.le_of_ble_eq_true rfl, Nat.le_of_ble_eq_true rfl⟩ ⟨Nat.le_of_ble_eq_true rfl, Nat.le_of_ble_eq_true rfl⟩ (Nat.le_of_ble_eq_true rfl) (fun H locs hM hS => ?_)
  refine lv_iload_n hx hb dL_makes_27 rfl (lv_at hl 0 rfl) ?_
  refine lv_icmp_eq (tgt := 33) hx hb dL_makes_28 (by decide) (fun c_28 => ?_) (fun c_28 => absurd c_28 (by decide))
  refine lv_iinc (v := 6) (lv' := [(2, .int 6), (0, .ref x), (1, .ref (gSb g))]) hx hb dL_makes_33 hl (k := 0) rfl (by decide) (by decide) rfl (fun ls hl => ?_)
  refine lv_goto (tgt := 2) hx hb dL_makes_36 (by decide) ?_
  refine lv_iload_n hx hb dL_makes_2 rfl (lv_at hl 0 rfl) ?_
  refine lv_bipush (v := 6) hx hb dL_makes_3 (by decide) ?_
  refine lv_icmp_ge (tgt := 39) hx hb dL_makes_5 (by decide) (fun c_5 => ?_) (fun c_5 => absurd c_5 (by decide))
  refine lv_iconst (v := 0) hx hb dL_makes_39 (by decide) ?_
  refine lv_istore_n (lv' := [(2, .int 0), (0, .ref x), (1, .ref (gSb g))]) hx hb dL_makes_40 rfl hl (by decide) rfl (fun ls hl => ?_)
  refine lv_iload_n hx hb dL_makes_41 rfl (lv_at hl 0 rfl) ?_
  refine lv_iconst (v := 3) hx hb dL_makes_42 (by decide) ?_
  refine lv_icmp_ge (tgt := 93) hx hb dL_makes_43 (by decide) (fun c_43 => absurd c_43 (by decide)) (fun c_43 => ?_)
  refine lv_aload_n hx hb dL_makes_46 rfl (lv_at hl 1 rfl) ?_
  refine lv_aload_n hx hb dL_makes_47 rfl (lv_at hl 2 rfl) ?_
  refine lv_bipush (v := 6) hx hb dL_makes_48 (by decide) ?_
  refine lv_iload_n hx hb dL_makes_50 rfl (lv_at hl 0 rfl) ?_
  refine lv_iadd hx hb dL_makes_51 ?_
  rw [show ((6 + 0) : Int32) = 6 from by decide]
  refine k_S1 hc [.ref (gSb g), .int 6] cw_L_165 dL_makes_52 (c_L_at l hlf g _ 6 (by omega)) hM hS hl.1 rfl rfl ⟨Nat.le_of_ble_eq_true rfl, Nat.le_of_ble_eq_true rfl⟩ ⟨Nat.le_of_ble_eq_true rfl, Nat.le_of_ble_eq_true rfl⟩ (Nat.le_of_ble_eq_true rfl) (fun H locs hM hS => ?_)
  refine lv_bipush (v := 100) hx hb dL_makes_55 (by decide) ?_
  refine k_S1 hc [.int (atV g 6), .int 100] cw_L_169 dL_makes_57 (c_L_some l hlf g _ (atV g 6) 100 (by decide)) hM hS hl.1 rfl rfl ⟨Nat.le_of_ble_eq_true rfl, Nat.le_of_ble_eq_true rfl⟩ ⟨Nat.le_of_ble_eq_true rfl, Nat.le_of_ble_eq_true rfl⟩ (Nat.le_of_ble_eq_true rfl) (fun H locs hM hS => ?_)
  obtain ⟨r13, hr13, er13⟩ := smF_b (atV g 6) (N := 100) (by omega) (by omega)
  have er13 : smF (atV g 6) 100 = nI r13 := er13
  rw [er13]
  clear er13
  refine lv_iconst (v := 1) hx hb dL_makes_60 (by decide) ?_
  refine lv_aload_n hx hb dL_makes_61 rfl (lv_at hl 2 rfl) ?_
  refine lv_bipush (v := 6) hx hb dL_makes_62 (by decide) ?_
  refine lv_iload_n hx hb dL_makes_64 rfl (lv_at hl 0 rfl) ?_
  refine lv_iadd hx hb dL_makes_65 ?_
  rw [show ((6 + 0) : Int32) = 6 from by decide]
  refine k_S1 hc [.ref (gSb g), .int 6] cw_L_165 dL_makes_66 (c_L_at l hlf g _ 6 (by omega)) hM hS hl.1 rfl rfl ⟨Nat.le_of_ble_eq_true rfl, Nat.le_of_ble_eq_true rfl⟩ ⟨Nat.le_of_ble_eq_true rfl, Nat.le_of_ble_eq_true rfl⟩ (Nat.le_of_ble_eq_true rfl) (fun H locs hM hS => ?_)
  refine lv_bipush (v := 7) hx hb dL_makes_69 (by decide) ?_
  refine lv_ishr hx hb dL_makes_71 ?_
  refine lv_bipush (v := 9) hx hb dL_makes_72 (by decide) ?_
  refine k_S1 hc [.int ((atV g 6) >>> (7 &&& 31)), .int 9] cw_L_169 dL_makes_74 (c_L_some l hlf g _ ((atV g 6) >>> (7 &&& 31)) 9 (by decide)) hM hS hl.1 rfl rfl ⟨Nat.le_of_ble_eq_true rfl, Nat.le_of_ble_eq_true rfl⟩ ⟨Nat.le_of_ble_eq_true rfl, Nat.le_of_ble_eq_true rfl⟩ (Nat.le_of_ble_eq_true rfl) (fun H locs hM hS => ?_)
  obtain ⟨r14, hr14, er14⟩ := smF_b ((atV g 6) >>> (7 &&& 31)) (N := 9) (by omega) (by omega)
  have er14 : smF ((atV g 6) >>> (7 &&& 31)) 9 = nI r14 := er14
  rw [er14]
  clear er14
  refine lv_iadd hx hb dL_makes_77 ?_
  rw [show (1 : Int32) + nI r14 = nI (1 + r14) from nI_add _ _]
  have k15 := h_post l hlf g (putC g M x c12) x c12 (nI r13) (nI (1 + r14)) ClsAt.put hk6.ok
  obtain ⟨q15, hk7⟩ := mk_post (a := r13) (y := (1 + r14)) hk6 (by omega) (by omega) (by omega) (by omega)
  obtain ⟨c15, ec15⟩ : ∃ c9, s_post c12 (nI r13) (nI (1 + r14)) = c9 := ⟨_, rfl⟩
  rw [ec15, putC_putC] at k15
  rw [ec15] at hk7
  clear ec15
  rw [show v_post c12 (nI r13) (nI (1 + r14)) = 0 from q15] at k15
  refine k_SX1 hc [.ref x, .int (nI r13), .int (nI (1 + r14))] cw_L_174 dL_makes_78 k15 hM hS hl.1 rfl rfl ⟨Nat.le_of_ble_eq_true rfl, Nat.le_of_ble_eq_true rfl⟩ ⟨Nat.le_of_ble_eq_true rfl, Nat.le_of_ble_eq_true rfl⟩ (Nat.le_of_ble_eq_true rfl) (fun H locs hM hS => ?_)
  refine lv_iload_n hx hb dL_makes_81 rfl (lv_at hl 0 rfl) ?_
  refine lv_icmp_eq (tgt := 87) hx hb dL_makes_82 (by decide) (fun c_82 => ?_) (fun c_82 => absurd c_82 (by decide))
  refine lv_iinc (v := 1) (lv' := [(2, .int 1), (0, .ref x), (1, .ref (gSb g))]) hx hb dL_makes_87 hl (k := 0) rfl (by decide) (by decide) rfl (fun ls hl => ?_)
  refine lv_goto (tgt := 41) hx hb dL_makes_90 (by decide) ?_
  refine lv_iload_n hx hb dL_makes_41 rfl (lv_at hl 0 rfl) ?_
  refine lv_iconst (v := 3) hx hb dL_makes_42 (by decide) ?_
  refine lv_icmp_ge (tgt := 93) hx hb dL_makes_43 (by decide) (fun c_43 => absurd c_43 (by decide)) (fun c_43 => ?_)
  refine lv_aload_n hx hb dL_makes_46 rfl (lv_at hl 1 rfl) ?_
  refine lv_aload_n hx hb dL_makes_47 rfl (lv_at hl 2 rfl) ?_
  refine lv_bipush (v := 6) hx hb dL_makes_48 (by decide) ?_
  refine lv_iload_n hx hb dL_makes_50 rfl (lv_at hl 0 rfl) ?_
  refine lv_iadd hx hb dL_makes_51 ?_
  rw [show ((6 + 1) : Int32) = 7 from by decide]
  refine k_S1 hc [.ref (gSb g), .int 7] cw_L_165 dL_makes_52 (c_L_at l hlf g _ 7 (by omega)) hM hS hl.1 rfl rfl ⟨Nat.le_of_ble_eq_true rfl, Nat.le_of_ble_eq_true rfl⟩ ⟨Nat.le_of_ble_eq_true rfl, Nat.le_of_ble_eq_true rfl⟩ (Nat.le_of_ble_eq_true rfl) (fun H locs hM hS => ?_)
  refine lv_bipush (v := 100) hx hb dL_makes_55 (by decide) ?_
  refine k_S1 hc [.int (atV g 7), .int 100] cw_L_169 dL_makes_57 (c_L_some l hlf g _ (atV g 7) 100 (by decide)) hM hS hl.1 rfl rfl ⟨Nat.le_of_ble_eq_true rfl, Nat.le_of_ble_eq_true rfl⟩ ⟨Nat.le_of_ble_eq_true rfl, Nat.le_of_ble_eq_true rfl⟩ (Nat.le_of_ble_eq_true rfl) (fun H locs hM hS => ?_)
  obtain ⟨r16, hr16, er16⟩ := smF_b (atV g 7) (N := 100) (by omega) (by omega)
  have er16 : smF (atV g 7) 100 = nI r16 := er16
  rw [er16]
  clear er16
  refine lv_iconst (v := 1) hx hb dL_makes_60 (by decide) ?_
  refine lv_aload_n hx hb dL_makes_61 rfl (lv_at hl 2 rfl) ?_
  refine lv_bipush (v := 6) hx hb dL_makes_62 (by decide) ?_
  refine lv_iload_n hx hb dL_makes_64 rfl (lv_at hl 0 rfl) ?_
  refine lv_iadd hx hb dL_makes_65 ?_
  rw [show ((6 + 1) : Int32) = 7 from by decide]
  refine k_S1 hc [.ref (gSb g), .int 7] cw_L_165 dL_makes_66 (c_L_at l hlf g _ 7 (by omega)) hM hS hl.1 rfl rfl ⟨Nat.le_of_ble_eq_true rfl, Nat.le_of_ble_eq_true rfl⟩ ⟨Nat.le_of_ble_eq_true rfl, Nat.le_of_ble_eq_true rfl⟩ (Nat.le_of_ble_eq_true rfl) (fun H locs hM hS => ?_)
  refine lv_bipush (v := 7) hx hb dL_makes_69 (by decide) ?_
  refine lv_ishr hx hb dL_makes_71 ?_
  refine lv_bipush (v := 9) hx hb dL_makes_72 (by decide) ?_
  refine k_S1 hc [.int ((atV g 7) >>> (7 &&& 31)), .int 9] cw_L_169 dL_makes_74 (c_L_some l hlf g _ ((atV g 7) >>> (7 &&& 31)) 9 (by decide)) hM hS hl.1 rfl rfl ⟨Nat.le_of_ble_eq_true rfl, Nat.le_of_ble_eq_true rfl⟩ ⟨Nat.le_of_ble_eq_true rfl, Nat.le_of_ble_eq_true rfl⟩ (Nat.le_of_ble_eq_true rfl) (fun H locs hM hS => ?_)
  obtain ⟨r17, hr17, er17⟩ := smF_b ((atV g 7) >>> (7 &&& 31)) (N := 9) (by omega) (by omega)
  have er17 : smF ((atV g 7) >>> (7 &&& 31)) 9 = nI r17 := er17
  rw [er17]
  clear er17
  refine lv_iadd hx hb dL_makes_77 ?_
  rw [show (1 : Int32) + nI r17 = nI (1 + r17) from nI_add _ _]
  have k18 := h_post l hlf g (putC g M x c15) x c15 (nI r16) (nI (1 + r17)) ClsAt.put hk7.ok
  obtain ⟨q18, hk8⟩ := mk_post (a := r16) (y := (1 + r17)) hk7 (by omega) (by omega) (by omega) (by omega)
  obtain ⟨c18, ec18⟩ : ∃ c9, s_post c15 (nI r16) (nI (1 + r17)) = c9 := ⟨_, rfl⟩
  rw [ec18, putC_putC] at k18
  rw [ec18] at hk8
  clear ec18
  rw [show v_post c15 (nI r16) (nI (1 + r17)) = 1 from q18] at k18
  refine k_SX1 hc [.ref x, .int (nI r16), .int (nI (1 + r17))] cw_L_174 dL_makes_78 k18 hM hS hl.1 rfl rfl ⟨Nat.le_of_ble_eq_true rfl, Nat.le_of_ble_eq_true rfl⟩ ⟨Nat.le_of_ble_eq_true rfl, Nat.le_of_ble_eq_true rfl⟩ (Nat.le_of_ble_eq_true rfl) (fun H locs hM hS => ?_)
  refine lv_iload_n hx hb dL_makes_81 rfl (lv_at hl 0 rfl) ?_
  refine lv_icmp_eq (tgt := 87) hx hb dL_makes_82 (by decide) (fun c_82 => ?_) (fun c_82 => absurd c_82 (by decide))
  refine lv_iinc (v := 2) (lv' := [(2, .int 2), (0, .ref x), (1, .ref (gSb g))]) hx hb dL_makes_87 hl (k := 0) rfl (by decide) (by decide) rfl (fun ls hl => ?_)
  refine lv_goto (tgt := 41) hx hb dL_makes_90 (by decide) ?_
  refine lv_iload_n hx hb dL_makes_41 rfl (lv_at hl 0 rfl) ?_
  refine lv_iconst (v := 3) hx hb dL_makes_42 (by decide) ?_
  refine lv_icmp_ge (tgt := 93) hx hb dL_makes_43 (by decide) (fun c_43 => absurd c_43 (by decide)) (fun c_43 => ?_)
  refine lv_aload_n hx hb dL_makes_46 rfl (lv_at hl 1 rfl) ?_
  refine lv_aload_n hx hb dL_makes_47 rfl (lv_at hl 2 rfl) ?_
  refine lv_bipush (v := 6) hx hb dL_makes_48 (by decide) ?_
  refine lv_iload_n hx hb dL_makes_50 rfl (lv_at hl 0 rfl) ?_
  refine lv_iadd hx hb dL_makes_51 ?_
  rw [show ((6 + 2) : Int32) = 8 from by decide]
  refine k_S1 hc [.ref (gSb g), .int 8] cw_L_165 dL_makes_52 (c_L_at l hlf g _ 8 (by omega)) hM hS hl.1 rfl rfl ⟨Nat.le_of_ble_eq_true rfl, Nat.le_of_ble_eq_true rfl⟩ ⟨Nat.le_of_ble_eq_true rfl, Nat.le_of_ble_eq_true rfl⟩ (Nat.le_of_ble_eq_true rfl) (fun H locs hM hS => ?_)
  refine lv_bipush (v := 100) hx hb dL_makes_55 (by decide) ?_
  refine k_S1 hc [.int (atV g 8), .int 100] cw_L_169 dL_makes_57 (c_L_some l hlf g _ (atV g 8) 100 (by decide)) hM hS hl.1 rfl rfl ⟨Nat.le_of_ble_eq_true rfl, Nat.le_of_ble_eq_true rfl⟩ ⟨Nat.le_of_ble_eq_true rfl, Nat.le_of_ble_eq_true rfl⟩ (Nat.le_of_ble_eq_true rfl) (fun H locs hM hS => ?_)
  obtain ⟨r19, hr19, er19⟩ := smF_b (atV g 8) (N := 100) (by omega) (by omega)
  have er19 : smF (atV g 8) 100 = nI r19 := er19
  rw [er19]
  clear er19
  refine lv_iconst (v := 1) hx hb dL_makes_60 (by decide) ?_
  refine lv_aload_n hx hb dL_makes_61 rfl (lv_at hl 2 rfl) ?_
  refine lv_bipush (v := 6) hx hb dL_makes_62 (by decide) ?_
  refine lv_iload_n hx hb dL_makes_64 rfl (lv_at hl 0 rfl) ?_
  refine lv_iadd hx hb dL_makes_65 ?_
  rw [show ((6 + 2) : Int32) = 8 from by decide]
  refine k_S1 hc [.ref (gSb g), .int 8] cw_L_165 dL_makes_66 (c_L_at l hlf g _ 8 (by omega)) hM hS hl.1 rfl rfl ⟨Nat.le_of_ble_eq_true rfl, Nat.le_of_ble_eq_true rfl⟩ ⟨Nat.le_of_ble_eq_true rfl, Nat.le_of_ble_eq_true rfl⟩ (Nat.le_of_ble_eq_true rfl) (fun H locs hM hS => ?_)
  refine lv_bipush (v := 7) hx hb dL_makes_69 (by decide) ?_
  refine lv_ishr hx hb dL_makes_71 ?_
  refine lv_bipush (v := 9) hx hb dL_makes_72 (by decide) ?_
  refine k_S1 hc [.int ((atV g 8) >>> (7 &&& 31)), .int 9] cw_L_169 dL_makes_74 (c_L_some l hlf g _ ((atV g 8) >>> (7 &&& 31)) 9 (by decide)) hM hS hl.1 rfl rfl ⟨Nat.le_of_ble_eq_true rfl, Nat.le_of_ble_eq_true rfl⟩ ⟨Nat.le_of_ble_eq_true rfl, Nat.le_of_ble_eq_true rfl⟩ (Nat.le_of_ble_eq_true rfl) (fun H locs hM hS => ?_)
  obtain ⟨r20, hr20, er20⟩ := smF_b ((atV g 8) >>> (7 &&& 31)) (N := 9) (by omega) (by omega)
  have er20 : smF ((atV g 8) >>> (7 &&& 31)) 9 = nI r20 := er20
  rw [er20]
  clear er20
  refine lv_iadd hx hb dL_makes_77 ?_
  rw [show (1 : Int32) + nI r20 = nI (1 + r20) from nI_add _ _]
  have k21 := h_post l hlf g (putC g M x c18) x c18 (nI r19) (nI (1 + r20)) ClsAt.put hk8.ok
  obtain ⟨q21, hk9⟩ := mk_post (a := r19) (y := (1 + r20)) hk8 (by omega) (by omega) (by omega) (by omega)
  obtain ⟨c21, ec21⟩ : ∃ c9, s_post c18 (nI r19) (nI (1 + r20)) = c9 := ⟨_, rfl⟩
  rw [ec21, putC_putC] at k21
  rw [ec21] at hk9
  clear ec21
  rw [show v_post c18 (nI r19) (nI (1 + r20)) = 2 from q21] at k21
  refine k_SX1 hc [.ref x, .int (nI r19), .int (nI (1 + r20))] cw_L_174 dL_makes_78 k21 hM hS hl.1 rfl rfl ⟨Nat.le_of_ble_eq_true rfl, Nat.le_of_ble_eq_true rfl⟩ ⟨Nat.le_of_ble_eq_true rfl, Nat.le_of_ble_eq_true rfl⟩ (Nat.le_of_ble_eq_true rfl) (fun H locs hM hS => ?_)
  refine lv_iload_n hx hb dL_makes_81 rfl (lv_at hl 0 rfl) ?_
  refine lv_icmp_eq (tgt := 87) hx hb dL_makes_82 (by decide) (fun c_82 => ?_) (fun c_82 => absurd c_82 (by decide))
  refine lv_iinc (v := 3) (lv' := [(2, .int 3), (0, .ref x), (1, .ref (gSb g))]) hx hb dL_makes_87 hl (k := 0) rfl (by decide) (by decide) rfl (fun ls hl => ?_)
  refine lv_goto (tgt := 41) hx hb dL_makes_90 (by decide) ?_
  refine lv_iload_n hx hb dL_makes_41 rfl (lv_at hl 0 rfl) ?_
  refine lv_iconst (v := 3) hx hb dL_makes_42 (by decide) ?_
  refine lv_icmp_ge (tgt := 93) hx hb dL_makes_43 (by decide) (fun c_43 => ?_) (fun c_43 => absurd c_43 (by decide))
  refine lv_iconst (v := 0) hx hb dL_makes_93 (by decide) ?_
  refine lv_istore_n (lv' := [(2, .int 0), (0, .ref x), (1, .ref (gSb g))]) hx hb dL_makes_94 rfl hl (by decide) rfl (fun ls hl => ?_)
  refine lv_iload_n hx hb dL_makes_95 rfl (lv_at hl 0 rfl) ?_
  refine lv_iconst (v := 2) hx hb dL_makes_96 (by decide) ?_
  refine lv_icmp_ge (tgt := 116) hx hb dL_makes_97 (by decide) (fun c_97 => absurd c_97 (by decide)) (fun c_97 => ?_)
  refine lv_aload_n hx hb dL_makes_100 rfl (lv_at hl 1 rfl) ?_
  have k22 := h_sheet l hlf g (putC g M x c21) x c21 ClsAt.put hk9.ok
  obtain ⟨q22, hk10⟩ := mk_sheet hk9 (by omega)
  obtain ⟨c22, ec22⟩ : ∃ c9, s_sheet c21 = c9 := ⟨_, rfl⟩
  rw [ec22, putC_putC] at k22
  rw [ec22] at hk10
  clear ec22
  rw [show v_sheet c21 = 0 from q22] at k22
  refine k_SX1 hc [.ref x] cw_L_177 dL_makes_101 k22 hM hS hl.1 rfl rfl ⟨Nat.le_of_ble_eq_true rfl, Nat.le_of_ble_eq_true rfl⟩ ⟨Nat.le_of_ble_eq_true rfl, Nat.le_of_ble_eq_true rfl⟩ (Nat.le_of_ble_eq_true rfl) (fun H locs hM hS => ?_)
  refine lv_iload_n hx hb dL_makes_104 rfl (lv_at hl 0 rfl) ?_
  refine lv_icmp_eq (tgt := 110) hx hb dL_makes_105 (by decide) (fun c_105 => ?_) (fun c_105 => absurd c_105 (by decide))
  refine lv_iinc (v := 1) (lv' := [(2, .int 1), (0, .ref x), (1, .ref (gSb g))]) hx hb dL_makes_110 hl (k := 0) rfl (by decide) (by decide) rfl (fun ls hl => ?_)
  refine lv_goto (tgt := 95) hx hb dL_makes_113 (by decide) ?_
  refine lv_iload_n hx hb dL_makes_95 rfl (lv_at hl 0 rfl) ?_
  refine lv_iconst (v := 2) hx hb dL_makes_96 (by decide) ?_
  refine lv_icmp_ge (tgt := 116) hx hb dL_makes_97 (by decide) (fun c_97 => absurd c_97 (by decide)) (fun c_97 => ?_)
  refine lv_aload_n hx hb dL_makes_100 rfl (lv_at hl 1 rfl) ?_
  have k23 := h_sheet l hlf g (putC g M x c22) x c22 ClsAt.put hk10.ok
  obtain ⟨q23, hk11⟩ := mk_sheet hk10 (by omega)
  obtain ⟨c23, ec23⟩ : ∃ c9, s_sheet c22 = c9 := ⟨_, rfl⟩
  rw [ec23, putC_putC] at k23
  rw [ec23] at hk11
  clear ec23
  rw [show v_sheet c22 = 1 from q23] at k23
  refine k_SX1 hc [.ref x] cw_L_177 dL_makes_101 k23 hM hS hl.1 rfl rfl ⟨Nat.le_of_ble_eq_true rfl, Nat.le_of_ble_eq_true rfl⟩ ⟨Nat.le_of_ble_eq_true rfl, Nat.le_of_ble_eq_true rfl⟩ (Nat.le_of_ble_eq_true rfl) (fun H locs hM hS => ?_)
  refine lv_iload_n hx hb dL_makes_104 rfl (lv_at hl 0 rfl) ?_
  refine lv_icmp_eq (tgt := 110) hx hb dL_makes_105 (by decide) (fun c_105 => ?_) (fun c_105 => absurd c_105 (by decide))
  refine lv_iinc (v := 2) (lv' := [(2, .int 2), (0, .ref x), (1, .ref (gSb g))]) hx hb dL_makes_110 hl (k := 0) rfl (by decide) (by decide) rfl (fun ls hl => ?_)
  refine lv_goto (tgt := 95) hx hb dL_makes_113 (by decide) ?_
  refine lv_iload_n hx hb dL_makes_95 rfl (lv_at hl 0 rfl) ?_
  refine lv_iconst (v := 2) hx hb dL_makes_96 (by decide) ?_
  refine lv_icmp_ge (tgt := 116) hx hb dL_makes_97 (by decide) (fun c_97 => ?_) (fun c_97 => absurd c_97 (by decide))
  refine lv_iconst (v := 0) hx hb dL_makes_116 (by decide) ?_
  refine lv_istore_n (lv' := [(2, .int 0), (0, .ref x), (1, .ref (gSb g))]) hx hb dL_makes_117 rfl hl (by decide) rfl (fun ls hl => ?_)
  refine lv_iload_n hx hb dL_makes_118 rfl (lv_at hl 0 rfl) ?_
  refine lv_iconst (v := 5) hx hb dL_makes_119 (by decide) ?_
  refine lv_icmp_ge (tgt := 152) hx hb dL_makes_120 (by decide) (fun c_120 => absurd c_120 (by decide)) (fun c_120 => ?_)
  refine lv_aload_n hx hb dL_makes_123 rfl (lv_at hl 1 rfl) ?_
  refine lv_aload_n hx hb dL_makes_124 rfl (lv_at hl 2 rfl) ?_
  refine lv_bipush (v := 9) hx hb dL_makes_125 (by decide) ?_
  refine lv_iload_n hx hb dL_makes_127 rfl (lv_at hl 0 rfl) ?_
  refine lv_iadd hx hb dL_makes_128 ?_
  rw [show ((9 + 0) : Int32) = 9 from by decide]
  refine k_S1 hc [.ref (gSb g), .int 9] cw_L_165 dL_makes_129 (c_L_at l hlf g _ 9 (by omega)) hM hS hl.1 rfl rfl ⟨Nat.le_of_ble_eq_true rfl, Nat.le_of_ble_eq_true rfl⟩ ⟨Nat.le_of_ble_eq_true rfl, Nat.le_of_ble_eq_true rfl⟩ (Nat.le_of_ble_eq_true rfl) (fun H locs hM hS => ?_)
  refine lv_bipush (v := 100) hx hb dL_makes_132 (by decide) ?_
  refine k_S1 hc [.int (atV g 9), .int 100] cw_L_169 dL_makes_134 (c_L_some l hlf g _ (atV g 9) 100 (by decide)) hM hS hl.1 rfl rfl ⟨Nat.le_of_ble_eq_true rfl, Nat.le_of_ble_eq_true rfl⟩ ⟨Nat.le_of_ble_eq_true rfl, Nat.le_of_ble_eq_true rfl⟩ (Nat.le_of_ble_eq_true rfl) (fun H locs hM hS => ?_)
  obtain ⟨r24, hr24, er24⟩ := smF_b (atV g 9) (N := 100) (by omega) (by omega)
  have er24 : smF (atV g 9) 100 = nI r24 := er24
  rw [er24]
  clear er24
  have k25 := h_camel l hlf g (putC g M x c23) x c23 (nI r24) ClsAt.put hk11.ok
  obtain ⟨q25, hk12⟩ := mk_camel (a := r24) hk11 (by omega) (by omega)
  obtain ⟨c25, ec25⟩ : ∃ c9, s_camel c23 (nI r24) = c9 := ⟨_, rfl⟩
  rw [ec25, putC_putC] at k25
  rw [ec25] at hk12
  clear ec25
  rw [show v_camel c23 (nI r24) = 0 from q25] at k25
  refine k_SX1 hc [.ref x, .int (nI r24)] cw_L_179 dL_makes_137 k25 hM hS hl.1 rfl rfl ⟨Nat.le_of_ble_eq_true rfl, Nat.le_of_ble_eq_true rfl⟩ ⟨Nat.le_of_ble_eq_true rfl, Nat.le_of_ble_eq_true rfl⟩ (Nat.le_of_ble_eq_true rfl) (fun H locs hM hS => ?_)
  refine lv_iload_n hx hb dL_makes_140 rfl (lv_at hl 0 rfl) ?_
  refine lv_icmp_eq (tgt := 146) hx hb dL_makes_141 (by decide) (fun c_141 => ?_) (fun c_141 => absurd c_141 (by decide))
  refine lv_iinc (v := 1) (lv' := [(2, .int 1), (0, .ref x), (1, .ref (gSb g))]) hx hb dL_makes_146 hl (k := 0) rfl (by decide) (by decide) rfl (fun ls hl => ?_)
  refine lv_goto (tgt := 118) hx hb dL_makes_149 (by decide) ?_
  refine lv_iload_n hx hb dL_makes_118 rfl (lv_at hl 0 rfl) ?_
  refine lv_iconst (v := 5) hx hb dL_makes_119 (by decide) ?_
  refine lv_icmp_ge (tgt := 152) hx hb dL_makes_120 (by decide) (fun c_120 => absurd c_120 (by decide)) (fun c_120 => ?_)
  refine lv_aload_n hx hb dL_makes_123 rfl (lv_at hl 1 rfl) ?_
  refine lv_aload_n hx hb dL_makes_124 rfl (lv_at hl 2 rfl) ?_
  refine lv_bipush (v := 9) hx hb dL_makes_125 (by decide) ?_
  refine lv_iload_n hx hb dL_makes_127 rfl (lv_at hl 0 rfl) ?_
  refine lv_iadd hx hb dL_makes_128 ?_
  rw [show ((9 + 1) : Int32) = 10 from by decide]
  refine k_S1 hc [.ref (gSb g), .int 10] cw_L_165 dL_makes_129 (c_L_at l hlf g _ 10 (by omega)) hM hS hl.1 rfl rfl ⟨Nat.le_of_ble_eq_true rfl, Nat.le_of_ble_eq_true rfl⟩ ⟨Nat.le_of_ble_eq_true rfl, Nat.le_of_ble_eq_true rfl⟩ (Nat.le_of_ble_eq_true rfl) (fun H locs hM hS => ?_)
  refine lv_bipush (v := 100) hx hb dL_makes_132 (by decide) ?_
  refine k_S1 hc [.int (atV g 10), .int 100] cw_L_169 dL_makes_134 (c_L_some l hlf g _ (atV g 10) 100 (by decide)) hM hS hl.1 rfl rfl ⟨Nat.le_of_ble_eq_true rfl, Nat.le_of_ble_eq_true rfl⟩ ⟨Nat.le_of_ble_eq_true rfl, Nat.le_of_ble_eq_true rfl⟩ (Nat.le_of_ble_eq_true rfl) (fun H locs hM hS => ?_)
  obtain ⟨r26, hr26, er26⟩ := smF_b (atV g 10) (N := 100) (by omega) (by omega)
  have er26 : smF (atV g 10) 100 = nI r26 := er26
  rw [er26]
  clear er26
  have k27 := h_camel l hlf g (putC g M x c25) x c25 (nI r26) ClsAt.put hk12.ok
  obtain ⟨q27, hk13⟩ := mk_camel (a := r26) hk12 (by omega) (by omega)
  obtain ⟨c27, ec27⟩ : ∃ c9, s_camel c25 (nI r26) = c9 := ⟨_, rfl⟩
  rw [ec27, putC_putC] at k27
  rw [ec27] at hk13
  clear ec27
  rw [show v_camel c25 (nI r26) = 1 from q27] at k27
  refine k_SX1 hc [.ref x, .int (nI r26)] cw_L_179 dL_makes_137 k27 hM hS hl.1 rfl rfl ⟨Nat.le_of_ble_eq_true rfl, Nat.le_of_ble_eq_true rfl⟩ ⟨Nat.le_of_ble_eq_true rfl, Nat.le_of_ble_eq_true rfl⟩ (Nat.le_of_ble_eq_true rfl) (fun H locs hM hS => ?_)
  refine lv_iload_n hx hb dL_makes_140 rfl (lv_at hl 0 rfl) ?_
  refine lv_icmp_eq (tgt := 146) hx hb dL_makes_141 (by decide) (fun c_141 => ?_) (fun c_141 => absurd c_141 (by decide))
  refine lv_iinc (v := 2) (lv' := [(2, .int 2), (0, .ref x), (1, .ref (gSb g))]) hx hb dL_makes_146 hl (k := 0) rfl (by decide) (by decide) rfl (fun ls hl => ?_)
  refine lv_goto (tgt := 118) hx hb dL_makes_149 (by decide) ?_
  refine lv_iload_n hx hb dL_makes_118 rfl (lv_at hl 0 rfl) ?_
  refine lv_iconst (v := 5) hx hb dL_makes_119 (by decide) ?_
  refine lv_icmp_ge (tgt := 152) hx hb dL_makes_120 (by decide) (fun c_120 => absurd c_120 (by decide)) (fun c_120 => ?_)
  refine lv_aload_n hx hb dL_makes_123 rfl (lv_at hl 1 rfl) ?_
  refine lv_aload_n hx hb dL_makes_124 rfl (lv_at hl 2 rfl) ?_
  refine lv_bipush (v := 9) hx hb dL_makes_125 (by decide) ?_
  refine lv_iload_n hx hb dL_makes_127 rfl (lv_at hl 0 rfl) ?_
  refine lv_iadd hx hb dL_makes_128 ?_
  rw [show ((9 + 2) : Int32) = 11 from by decide]
  refine k_S1 hc [.ref (gSb g), .int 11] cw_L_165 dL_makes_129 (c_L_at l hlf g _ 11 (by omega)) hM hS hl.1 rfl rfl ⟨Nat.le_of_ble_eq_true rfl, Nat.le_of_ble_eq_true rfl⟩ ⟨Nat.le_of_ble_eq_true rfl, Nat.le_of_ble_eq_true rfl⟩ (Nat.le_of_ble_eq_true rfl) (fun H locs hM hS => ?_)
  refine lv_bipush (v := 100) hx hb dL_makes_132 (by decide) ?_
  refine k_S1 hc [.int (atV g 11), .int 100] cw_L_169 dL_makes_134 (c_L_some l hlf g _ (atV g 11) 100 (by decide)) hM hS hl.1 rfl rfl ⟨Nat.le_of_ble_eq_true rfl, Nat.le_of_ble_eq_true rfl⟩ ⟨Nat.le_of_ble_eq_true rfl, Nat.le_of_ble_eq_true rfl⟩ (Nat.le_of_ble_eq_true rfl) (fun H locs hM hS => ?_)
  obtain ⟨r28, hr28, er28⟩ := smF_b (atV g 11) (N := 100) (by omega) (by omega)
  have er28 : smF (atV g 11) 100 = nI r28 := er28
  rw [er28]
  clear er28
  have k29 := h_camel l hlf g (putC g M x c27) x c27 (nI r28) ClsAt.put hk13.ok
  obtain ⟨q29, hk14⟩ := mk_camel (a := r28) hk13 (by omega) (by omega)
  obtain ⟨c29, ec29⟩ : ∃ c9, s_camel c27 (nI r28) = c9 := ⟨_, rfl⟩
  rw [ec29, putC_putC] at k29
  rw [ec29] at hk14
  clear ec29
  rw [show v_camel c27 (nI r28) = 2 from q29] at k29
  refine k_SX1 hc [.ref x, .int (nI r28)] cw_L_179 dL_makes_137 k29 hM hS hl.1 rfl rfl ⟨Nat.le_of_ble_eq_true rfl, Nat.le_of_ble_eq_true rfl⟩ ⟨Nat.le_of_ble_eq_true rfl, Nat.le_of_ble_eq_true rfl⟩ (Nat.le_of_ble_eq_true rfl) (fun H locs hM hS => ?_)
  refine lv_iload_n hx hb dL_makes_140 rfl (lv_at hl 0 rfl) ?_
  refine lv_icmp_eq (tgt := 146) hx hb dL_makes_141 (by decide) (fun c_141 => ?_) (fun c_141 => absurd c_141 (by decide))
  refine lv_iinc (v := 3) (lv' := [(2, .int 3), (0, .ref x), (1, .ref (gSb g))]) hx hb dL_makes_146 hl (k := 0) rfl (by decide) (by decide) rfl (fun ls hl => ?_)
  refine lv_goto (tgt := 118) hx hb dL_makes_149 (by decide) ?_
  refine lv_iload_n hx hb dL_makes_118 rfl (lv_at hl 0 rfl) ?_
  refine lv_iconst (v := 5) hx hb dL_makes_119 (by decide) ?_
  refine lv_icmp_ge (tgt := 152) hx hb dL_makes_120 (by decide) (fun c_120 => absurd c_120 (by decide)) (fun c_120 => ?_)
  refine lv_aload_n hx hb dL_makes_123 rfl (lv_at hl 1 rfl) ?_
  refine lv_aload_n hx hb dL_makes_124 rfl (lv_at hl 2 rfl) ?_
  refine lv_bipush (v := 9) hx hb dL_makes_125 (by decide) ?_
  refine lv_iload_n hx hb dL_makes_127 rfl (lv_at hl 0 rfl) ?_
  refine lv_iadd hx hb dL_makes_128 ?_
  rw [show ((9 + 3) : Int32) = 12 from by decide]
  refine k_S1 hc [.ref (gSb g), .int 12] cw_L_165 dL_makes_129 (c_L_at l hlf g _ 12 (by omega)) hM hS hl.1 rfl rfl ⟨Nat.le_of_ble_eq_true rfl, Nat.le_of_ble_eq_true rfl⟩ ⟨Nat.le_of_ble_eq_true rfl, Nat.le_of_ble_eq_true rfl⟩ (Nat.le_of_ble_eq_true rfl) (fun H locs hM hS => ?_)
  refine lv_bipush (v := 100) hx hb dL_makes_132 (by decide) ?_
  refine k_S1 hc [.int (atV g 12), .int 100] cw_L_169 dL_makes_134 (c_L_some l hlf g _ (atV g 12) 100 (by decide)) hM hS hl.1 rfl rfl ⟨Nat.le_of_ble_eq_true rfl, Nat.le_of_ble_eq_true rfl⟩ ⟨Nat.le_of_ble_eq_true rfl, Nat.le_of_ble_eq_true rfl⟩ (Nat.le_of_ble_eq_true rfl) (fun H locs hM hS => ?_)
  obtain ⟨r30, hr30, er30⟩ := smF_b (atV g 12) (N := 100) (by omega) (by omega)
  have er30 : smF (atV g 12) 100 = nI r30 := er30
  rw [er30]
  clear er30
  have k31 := h_camel l hlf g (putC g M x c29) x c29 (nI r30) ClsAt.put hk14.ok
  obtain ⟨q31, hk15⟩ := mk_camel (a := r30) hk14 (by omega) (by omega)
  obtain ⟨c31, ec31⟩ : ∃ c9, s_camel c29 (nI r30) = c9 := ⟨_, rfl⟩
  rw [ec31, putC_putC] at k31
  rw [ec31] at hk15
  clear ec31
  rw [show v_camel c29 (nI r30) = 3 from q31] at k31
  refine k_SX1 hc [.ref x, .int (nI r30)] cw_L_179 dL_makes_137 k31 hM hS hl.1 rfl rfl ⟨Nat.le_of_ble_eq_true rfl, Nat.le_of_ble_eq_true rfl⟩ ⟨Nat.le_of_ble_eq_true rfl, Nat.le_of_ble_eq_true rfl⟩ (Nat.le_of_ble_eq_true rfl) (fun H locs hM hS => ?_)
  refine lv_iload_n hx hb dL_makes_140 rfl (lv_at hl 0 rfl) ?_
  refine lv_icmp_eq (tgt := 146) hx hb dL_makes_141 (by decide) (fun c_141 => ?_) (fun c_141 => absurd c_141 (by decide))
  refine lv_iinc (v := 4) (lv' := [(2, .int 4), (0, .ref x), (1, .ref (gSb g))]) hx hb dL_makes_146 hl (k := 0) rfl (by decide) (by decide) rfl (fun ls hl => ?_)
  refine lv_goto (tgt := 118) hx hb dL_makes_149 (by decide) ?_
  refine lv_iload_n hx hb dL_makes_118 rfl (lv_at hl 0 rfl) ?_
  refine lv_iconst (v := 5) hx hb dL_makes_119 (by decide) ?_
  refine lv_icmp_ge (tgt := 152) hx hb dL_makes_120 (by decide) (fun c_120 => absurd c_120 (by decide)) (fun c_120 => ?_)
  refine lv_aload_n hx hb dL_makes_123 rfl (lv_at hl 1 rfl) ?_
  refine lv_aload_n hx hb dL_makes_124 rfl (lv_at hl 2 rfl) ?_
  refine lv_bipush (v := 9) hx hb dL_makes_125 (by decide) ?_
  refine lv_iload_n hx hb dL_makes_127 rfl (lv_at hl 0 rfl) ?_
  refine lv_iadd hx hb dL_makes_128 ?_
  rw [show ((9 + 4) : Int32) = 13 from by decide]
  refine k_S1 hc [.ref (gSb g), .int 13] cw_L_165 dL_makes_129 (c_L_at l hlf g _ 13 (by omega)) hM hS hl.1 rfl rfl ⟨Nat.le_of_ble_eq_true rfl, Nat.le_of_ble_eq_true rfl⟩ ⟨Nat.le_of_ble_eq_true rfl, Nat.le_of_ble_eq_true rfl⟩ (Nat.le_of_ble_eq_true rfl) (fun H locs hM hS => ?_)
  refine lv_bipush (v := 100) hx hb dL_makes_132 (by decide) ?_
  refine k_S1 hc [.int (atV g 13), .int 100] cw_L_169 dL_makes_134 (c_L_some l hlf g _ (atV g 13) 100 (by decide)) hM hS hl.1 rfl rfl ⟨Nat.le_of_ble_eq_true rfl, Nat.le_of_ble_eq_true rfl⟩ ⟨Nat.le_of_ble_eq_true rfl, Nat.le_of_ble_eq_true rfl⟩ (Nat.le_of_ble_eq_true rfl) (fun H locs hM hS => ?_)
  obtain ⟨r32, hr32, er32⟩ := smF_b (atV g 13) (N := 100) (by omega) (by omega)
  have er32 : smF (atV g 13) 100 = nI r32 := er32
  rw [er32]
  clear er32
  have k33 := h_camel l hlf g (putC g M x c31) x c31 (nI r32) ClsAt.put hk15.ok
  obtain ⟨q33, hk16⟩ := mk_camel (a := r32) hk15 (by omega) (by omega)
  obtain ⟨c33, ec33⟩ : ∃ c9, s_camel c31 (nI r32) = c9 := ⟨_, rfl⟩
  rw [ec33, putC_putC] at k33
  rw [ec33] at hk16
  clear ec33
  rw [show v_camel c31 (nI r32) = 4 from q33] at k33
  refine k_SX1 hc [.ref x, .int (nI r32)] cw_L_179 dL_makes_137 k33 hM hS hl.1 rfl rfl ⟨Nat.le_of_ble_eq_true rfl, Nat.le_of_ble_eq_true rfl⟩ ⟨Nat.le_of_ble_eq_true rfl, Nat.le_of_ble_eq_true rfl⟩ (Nat.le_of_ble_eq_true rfl) (fun H locs hM hS => ?_)
  refine lv_iload_n hx hb dL_makes_140 rfl (lv_at hl 0 rfl) ?_
  refine lv_icmp_eq (tgt := 146) hx hb dL_makes_141 (by decide) (fun c_141 => ?_) (fun c_141 => absurd c_141 (by decide))
  refine lv_iinc (v := 5) (lv' := [(2, .int 5), (0, .ref x), (1, .ref (gSb g))]) hx hb dL_makes_146 hl (k := 0) rfl (by decide) (by decide) rfl (fun ls hl => ?_)
  refine lv_goto (tgt := 118) hx hb dL_makes_149 (by decide) ?_
  refine lv_iload_n hx hb dL_makes_118 rfl (lv_at hl 0 rfl) ?_
  refine lv_iconst (v := 5) hx hb dL_makes_119 (by decide) ?_
  refine lv_icmp_ge (tgt := 152) hx hb dL_makes_120 (by decide) (fun c_120 => ?_) (fun c_120 => absurd c_120 (by decide))
  refine lv_aload_n hx hb dL_makes_152 rfl (lv_at hl 1 rfl) ?_
  refine lv_aload_n hx hb dL_makes_153 rfl (lv_at hl 2 rfl) ?_
  refine lv_bipush (v := 14) hx hb dL_makes_154 (by decide) ?_
  refine k_S1 hc [.ref (gSb g), .int 14] cw_L_165 dL_makes_156 (c_L_at l hlf g _ 14 (by omega)) hM hS hl.1 rfl rfl ⟨Nat.le_of_ble_eq_true rfl, Nat.le_of_ble_eq_true rfl⟩ ⟨Nat.le_of_ble_eq_true rfl, Nat.le_of_ble_eq_true rfl⟩ (Nat.le_of_ble_eq_true rfl) (fun H locs hM hS => ?_)
  refine lv_bipush (v := 10) hx hb dL_makes_159 (by decide) ?_
  refine k_S1 hc [.int (atV g 14), .int 10] cw_L_169 dL_makes_161 (c_L_some l hlf g _ (atV g 14) 10 (by decide)) hM hS hl.1 rfl rfl ⟨Nat.le_of_ble_eq_true rfl, Nat.le_of_ble_eq_true rfl⟩ ⟨Nat.le_of_ble_eq_true rfl, Nat.le_of_ble_eq_true rfl⟩ (Nat.le_of_ble_eq_true rfl) (fun H locs hM hS => ?_)
  obtain ⟨r34, hr34, er34⟩ := smF_b (atV g 14) (N := 10) (by omega) (by omega)
  have er34 : smF (atV g 14) 10 = nI r34 := er34
  rw [er34]
  clear er34
  have k35 := h_heat l hlf g (putC g M x c33) x c33 (nI r34) ClsAt.put hk16.ok
  obtain ⟨q35, hk17⟩ := mk_heat (y := r34) hk16 (by omega) rfl
  obtain ⟨c35, ec35⟩ : ∃ c9, s_heat c33 (nI r34) = c9 := ⟨_, rfl⟩
  rw [ec35, putC_putC] at k35
  rw [ec35] at hk17
  clear ec35
  rw [show v_heat c33 (nI r34) = 0 from q35] at k35
  refine k_SX1 hc [.ref x, .int (nI r34)] cw_L_181 dL_makes_164 k35 hM hS hl.1 rfl rfl ⟨Nat.le_of_ble_eq_true rfl, Nat.le_of_ble_eq_true rfl⟩ ⟨Nat.le_of_ble_eq_true rfl, Nat.le_of_ble_eq_true rfl⟩ (Nat.le_of_ble_eq_true rfl) (fun H locs hM hS => ?_)
  refine lv_if_ne (tgt := 194) hx hb dL_makes_167 (by decide) (fun c_167 => absurd c_167 (by decide)) (fun c_167 => ?_)
  refine lv_aload_n hx hb dL_makes_170 rfl (lv_at hl 1 rfl) ?_
  refine lv_iconst (v := 1) hx hb dL_makes_171 (by decide) ?_
  refine lv_aload_n hx hb dL_makes_172 rfl (lv_at hl 2 rfl) ?_
  refine lv_bipush (v := 15) hx hb dL_makes_173 (by decide) ?_
  refine k_S1 hc [.ref (gSb g), .int 15] cw_L_165 dL_makes_175 (c_L_at l hlf g _ 15 (by omega)) hM hS hl.1 rfl rfl ⟨Nat.le_of_ble_eq_true rfl, Nat.le_of_ble_eq_true rfl⟩ ⟨Nat.le_of_ble_eq_true rfl, Nat.le_of_ble_eq_true rfl⟩ (Nat.le_of_ble_eq_true rfl) (fun H locs hM hS => ?_)
  refine lv_bipush (v := 20) hx hb dL_makes_178 (by decide) ?_
  refine k_S1 hc [.int (atV g 15), .int 20] cw_L_169 dL_makes_180 (c_L_some l hlf g _ (atV g 15) 20 (by decide)) hM hS hl.1 rfl rfl ⟨Nat.le_of_ble_eq_true rfl, Nat.le_of_ble_eq_true rfl⟩ ⟨Nat.le_of_ble_eq_true rfl, Nat.le_of_ble_eq_true rfl⟩ (Nat.le_of_ble_eq_true rfl) (fun H locs hM hS => ?_)
  obtain ⟨r36, hr36, er36⟩ := smF_b (atV g 15) (N := 20) (by omega) (by omega)
  have er36 : smF (atV g 15) 20 = nI r36 := er36
  rw [er36]
  clear er36
  refine lv_iadd hx hb dL_makes_183 ?_
  rw [show (1 : Int32) + nI r36 = nI (1 + r36) from nI_add _ _]
  have k37 := h_hours l hlf g (putC g M x c35) x c35 (nI (1 + r36)) ClsAt.put hk17.ok
  obtain ⟨⟨v9, hv9, q37⟩, hk18⟩ := mk_hours (y := (1 + r36)) hk17 (by omega) (by omega) (by omega)
  obtain ⟨c37, ec37⟩ : ∃ c9, s_hours c35 (nI (1 + r36)) = c9 := ⟨_, rfl⟩
  rw [ec37, putC_putC] at k37
  rw [ec37] at hk18
  clear ec37
  rw [show v_hours c35 (nI (1 + r36)) = (nI v9) from q37] at k37
  refine k_SX1 hc [.ref x, .int (nI (1 + r36))] cw_L_183 dL_makes_184 k37 hM hS hl.1 rfl rfl ⟨Nat.le_of_ble_eq_true rfl, Nat.le_of_ble_eq_true rfl⟩ ⟨Nat.le_of_ble_eq_true rfl, Nat.le_of_ble_eq_true rfl⟩ (Nat.le_of_ble_eq_true rfl) (fun H locs hM hS => ?_)
  refine lv_if_lt (tgt := 194) hx hb dL_makes_187 (by decide) (fun c_187 => absurd c_187 (nI_pos (by omega))) (fun c_187 => ?_)
  refine lv_iconst (v := 1) hx hb dL_makes_190 (by decide) ?_
  refine lv_goto (tgt := 195) hx hb dL_makes_191 (by decide) ?_
  exact k_zretv hc hr dL_makes_195 hM hS (by rfl) (Nat.le_of_ble_eq_true rfl) (Nat.le_of_ble_eq_true rfl) ⟨rfl, c37, _, (by omega), rfl, hk18⟩
