/-! refused(o) -/
theorem op_refE {c : CS} {r : OR} {k d : Int32} (h : r = .inr (k, d)) (hA : Aux c) : vO r = -1001 ∧ Rfd c (sO c r) ∧ sO c r 11 3 10 = k ∧ sO c r 11 3 11 = d ∧ sO c r 11 3 12 = 0 ∧ sO c r 11 3 8 = c 11 3 8 := by
  subst h
  exact op_ref hA
theorem is_1 {c : CS} {a b d : Int32} (h0 : ¬ a = 0) (h1 : c 11 3 10 = a) (h2 : c 11 3 11 = b) (h3 : c 11 3 12 = d) : v_is c a b d = 1 := by
  have e : ∀ w : Int32, (¬ w < 0 ∧ w ≤ 2) → v_reason c w = rsV c w := fun w hw => by
    unfold v_reason
    rw [if_pos hw, if_pos (by rw [h1]; exact h0)]
  unfold v_is
  rw [e 0 (by decide), e 1 (by decide), e 2 (by decide), if_pos]
  exact ⟨h1, h2, h3⟩
theorem LnP.rfd {a b : CS} (h : LnP a b) (hA : Aux a) : Rfd a b := by
  obtain ⟨⟨h1, h2, h3⟩, h4, n, hn, h5⟩ := h
  refine ⟨h1 0 (by omega), ⟨h1 2 (by omega), fun j hj => h1 _ (by omega), h3 5 (by omega), h3 6 (by omega), h3 7 (by omega)⟩, ⟨fun k => by rw [h2 1 (by omega) (by omega)]; exact hA.1.1 k, h4, by rw [h5]; exact ⟨nI_pos (by omega), nI_le hn (by decide)⟩⟩, ?_⟩
  rw [h3 1 (by omega)]
  exact hA.2
theorem Aux.ln {c : CS} (h : Aux c) : LnO c := by
  refine ⟨h.1.2.1, ?_⟩
  obtain ⟨h1, h2⟩ := h.1.2.2
  obtain ⟨n, hn, e⟩ := nI_of h1
  rw [e] at h2
  exact ⟨n, (nI_leI (b := 79) hn (by decide)).mp h2, e⟩
section LC
variable {p : Program} {l : Launch} {e : Env} {R : Room} {s : State} {m : MethodId} {args : Array Value} {below : List Frame} {meth : Method} {c : Code} {H : Heap} {locs : List Loc} {cells slots : Nat} {Q : State → Prop}
variable {cc : ByteArray} {pc nL : Nat} {ls : Array Slot} {rest : List Value}
theorem lv_lcmp (hexec : p.tables.exec = Jvm.exec) (hb : c.code = cc) {x y : Int64} (hdg : decode cc pc = .ok (.lcmp, 1))
    (k : W p l e R s m args below meth c H locs cells slots Q (F0 m (pc + 1) ls (.int (if x > y then 1 else if x = y then 0 else -1) :: rest))) : W p l e R s m args below meth c H locs cells slots Q (F0 m pc ls (.long y :: .long x :: rest)) := by
  intro T hT X
  obtain ⟨t, a, b⟩ := k T hT X
  refine ⟨t, ?_, b⟩
  jvm_step X.here [X.here.top, hexec, hb, hdg]
  by_cases h1 : y < x
  · rw [if_pos h1]
    rw [if_pos (show x > y from h1)] at a
    exact a
  · rw [if_neg h1]
    rw [if_neg (show ¬ x > y from h1)] at a
    by_cases h2 : x = y
    · rw [if_pos h2]
      rw [if_pos h2] at a
      exact a
    · rw [if_neg h2]
      rw [if_neg h2] at a
      exact a
end LC
section RF
variable {t dh cu : Nat} {fl : FL}
theorem ne_k : ∀ k : Nat, k < 12 → ¬ (100 : Int32) = nI k ∧ ¬ (-1 : Int32) = nI k := by decide +kernel
theorem no_S (h : FI 6 3 2 5 t dh cu fl) : ¬ rin 10 (fl 8 0) 6 ∧ ¬ rin 10 (fl 8 0) (-1) ∧ rin 10 (fl 8 0) 0 ∧ rin 10 (fl 8 0) 1 :=
  ⟨fun q => by obtain ⟨k, hk, e⟩ := h.iS.mp q; exact absurd e ((by decide : ∀ k : Nat, k < 6 → ¬ (6 : Int32) = nI k) k hk), fun q => by obtain ⟨k, hk, e⟩ := h.iS.mp q; exact absurd e ((by decide : ∀ k : Nat, k < 6 → ¬ (-1 : Int32) = nI k) k hk), h.iS.mpr ⟨0, by omega, rfl⟩, h.iS.mpr ⟨1, by omega, rfl⟩⟩
theorem no_P (h : FI 6 3 2 5 t dh cu fl) : ¬ rin 4 (fl 8 1) 3 ∧ ¬ rin 4 (fl 8 1) (-1) ∧ rin 4 (fl 8 1) 0 :=
  ⟨fun q => by obtain ⟨k, hk, e⟩ := h.iP.mp q; exact absurd e ((by decide : ∀ k : Nat, k < 3 → ¬ (3 : Int32) = nI k) k hk), fun q => by obtain ⟨k, hk, e⟩ := h.iP.mp q; exact absurd e ((by decide : ∀ k : Nat, k < 3 → ¬ (-1 : Int32) = nI k) k hk), h.iP.mpr ⟨0, by omega, rfl⟩⟩
theorem no_H (h : FI 6 3 2 5 t dh cu fl) : ¬ hasSh fl 2 ∧ ¬ hasSh fl (-1) :=
  ⟨fun q => by obtain ⟨k, hk, e⟩ := h.iH.mp q; exact absurd e ((by decide : ∀ k : Nat, k < 2 → ¬ (2 : Int32) = nI k) k hk), fun q => by obtain ⟨k, hk, e⟩ := h.iH.mp q; exact absurd e ((by decide : ∀ k : Nat, k < 2 → ¬ (-1 : Int32) = nI k) k hk)⟩
theorem no_C (h : FI 6 3 2 5 t dh cu fl) : ¬ rin 6 (fl 8 4) 5 ∧ ¬ rin 6 (fl 8 4) (-1) ∧ rin 6 (fl 8 4) 0 :=
  ⟨fun q => by obtain ⟨k, hk, e⟩ := h.iC.mp q; exact absurd e ((by decide : ∀ k : Nat, k < 5 → ¬ (5 : Int32) = nI k) k hk), fun q => by obtain ⟨k, hk, e⟩ := h.iC.mp q; exact absurd e ((by decide : ∀ k : Nat, k < 5 → ¬ (-1 : Int32) = nI k) k hk), h.iC.mpr ⟨0, by omega, rfl⟩⟩
theorem ds_4 {c : CS} (h : FI 6 3 2 5 t dh cu (c 0)) (hS : St6 6 c) : dsO (c 0) (c 0 0 1) = .inr (4, 1) := by
  obtain ⟨r0, h0, e0⟩ := hS 0 (by omega)
  obtain ⟨r1, h1, e1⟩ := hS 1 (by omega)
  have z0 := h.2.1.1
  have hf : rfind 10 (c 0 8 0) (c 0 0) (c 0 0 1) = 1 := by
    unfold rfind
    rw [z0, nI_clamp (by omega)]
    have g0 : rget 10 (nI 6) (c 0 0) (nI 0) = c 0 0 0 := rget_k (by omega) (by omega) (by decide)
    have g1 : rget 10 (nI 6) (c 0 0) (nI 1) = c 0 0 1 := rget_k (by omega) (by omega) (by decide)
    have n0 : ¬ c 0 0 0 = c 0 0 1 := by
      rw [e0, e1]
      intro q
      have h9 := congrArg Int32.toNatClampNeg q
      rw [nI_clamp (by omega), nI_clamp (by omega)] at h9
      omega
    show fnd _ (4 + 1 + 1) 0 = 1
    rw [fnd, if_neg (by rw [decide_eq_true_eq, g0]; exact n0), fnd, if_pos (by rw [decide_eq_true_eq]; exact g1)]
    rfl
  unfold dsO
  rw [if_neg (fun q => q (by rw [e1]; exact ⟨nI_pos (by omega), nI_ge (a := 16 * 1 + r1) (b := 100) (by omega) (by decide)⟩)), if_neg (fun q => q (by rw [z0]; exact nI_lt (a := 6) (b := 10) (by omega) (by decide))), hf, if_pos (by decide)]

theorem rf_ds_m (h : FI 6 3 2 5 t dh cu fl) : dsO fl (-1) = .inr (1, 0) := by
  unfold dsO
  rw [if_pos (by decide)]
theorem rf_ds_c (h : FI 6 3 2 5 t dh cu fl) : dsO fl 100 = .inr (1, 0) := by
  unfold dsO
  rw [if_pos (by decide)]
theorem rf_sp_c (h : FI 6 3 2 5 t dh cu fl) : spO fl 100 1 = .inr (1, 0) := by
  unfold spO
  rw [if_pos (Or.inl (by decide))]
theorem rf_sp_0 (h : FI 6 3 2 5 t dh cu fl) : spO fl 0 0 = .inr (1, 0) := by
  unfold spO
  rw [if_pos (Or.inr (Or.inl (by decide)))]
theorem rf_sp_10 (h : FI 6 3 2 5 t dh cu fl) : spO fl 0 10 = .inr (1, 0) := by
  unfold spO
  rw [if_pos (Or.inr (Or.inr (by decide)))]
theorem rf_sh_10 (h : FI 6 3 2 5 t dh cu fl) : shO fl 10 = .inr (1, 0) := by
  unfold shO
  rw [if_pos (Or.inr (by decide))]
theorem rf_sh_m (h : FI 6 3 2 5 t dh cu fl) : shO fl (-1) = .inr (1, 0) := by
  unfold shO
  rw [if_pos (Or.inl (by decide))]
theorem rf_sg_6 (h : FI 6 3 2 5 t dh cu fl) : sgO fl 6 3 2 = .inr (3, 6) := by
  unfold sgO
  rw [if_pos (no_S h).1]
theorem rf_sg_3 (h : FI 6 3 2 5 t dh cu fl) : sgO fl 0 3 (-1) = .inr (3, 3) := by
  unfold sgO
  rw [if_neg (fun q => q (no_S h).2.2.1), if_pos (no_P h).1]
theorem rf_sg_2 (h : FI 6 3 2 5 t dh cu fl) : sgO fl 0 0 2 = .inr (3, 2) := by
  unfold sgO
  rw [if_neg (fun q => q (no_S h).2.2.1), if_neg (fun q => q (no_P h).2.2), if_pos (no_H h).1]
theorem rf_er_m (h : FI 6 3 2 5 t dh cu fl) : erO fl (-1) 0 = .inr (3, (-1)) := by
  unfold erO
  rw [if_pos (no_S h).2.1]
theorem rf_er_2 (h : FI 6 3 2 5 t dh cu fl) : erO fl 0 2 = .inr (3, 2) := by
  unfold erO
  rw [if_neg (fun q => q (no_S h).2.2.1), if_pos (no_H h).1]
theorem rf_ca_c (h : FI 6 3 2 5 t dh cu fl) : caO fl 100 = .inr (1, 0) := by
  unfold caO
  rw [if_pos (by decide)]
theorem rf_rb_m (h : FI 6 3 2 5 t dh cu fl) : rbO fl (-1) = .inr (1, 0) := by
  unfold rbO
  rw [if_pos (by decide)]
theorem rf_rb_c (h : FI 6 3 2 5 t dh cu fl) : rbO fl 100 = .inr (1, 0) := by
  unfold rbO
  rw [if_pos (by decide)]
theorem rf_ti_5 (h : FI 6 3 2 5 t dh cu fl) : tiO fl 5 = .inr (3, 5) := by
  unfold tiO
  rw [if_pos (no_C h).1]
theorem rf_lo_m (h : FI 6 3 2 5 t dh cu fl) : loO fl (-1) = .inr (3, (-1)) := by
  unfold loO
  rw [if_pos (no_C h).2.1]
theorem rf_wc_5 (h : FI 6 3 2 5 t dh cu fl) : wcO fl 5 = .inr (3, 5) := by
  unfold wcO
  rw [if_pos (no_C h).1]
theorem rf_bw_0 (h : FI 6 3 2 5 t dh cu fl) : bwO fl 0 = .inr (1, 0) := by
  unfold bwO
  rw [if_pos (Or.inl (by decide))]
theorem rf_bw_c (h : FI 6 3 2 5 t dh cu fl) : bwO fl 101 = .inr (1, 0) := by
  unfold bwO
  rw [if_pos (Or.inr (by decide))]
theorem rf_ph_0 (h : FI 6 3 2 5 t dh cu fl) : phO fl 0 = .inr (1, 0) := by
  unfold phO
  rw [if_pos (Or.inl (by decide))]
theorem rf_ph_c (h : FI 6 3 2 5 t dh cu fl) : phO fl 49 = .inr (1, 0) := by
  unfold phO
  rw [if_pos (Or.inr (by decide))]
end RF
set_option maxHeartbeats 4000000 in
set_option maxRecDepth 100000 in
theorem c_L_refused (l : Launch) (hlf : l.stackTraces = false) (g : GC) (M : HM) (x : Nat) (cs : CS) {t dh cu nx sz : Nat} (hW : ClsAt g M x cs) (hF0 : FI 6 3 2 5 t dh cu (cs 0)) (hA0 : Aux cs) (hR0 : Rg nx sz cs) (hS6 : St6 6 cs) (ht : t + 48 * 61 < 2 ^ 30) : KMv g l yL_refused cL_refused 8 (some .boolean) 16 6000 36000 [.ref x] M (fun v M1 => v = .int 1 ∧ ∃ c' : CS, M1 = putC g M x c' ∧ Rfd cs c') := by
  refine k_methv hlf (by decide) (Nat.le_of_ble_eq_true rfl) fun p e s m below meth c ls hc hr hnx9 hM hS hl => ?_
  have hc : Cx g p l s m [.ref x].toArray meth c cL_refused 8 RL := hc
  have hx := hc.1
  have hb := hc.2.1
  have hl : lv_has ls 8 [(0, .ref x)] := hl
  have rf0 : Rfd cs cs := ⟨rfl, HsE.rf, hA0⟩
  have hF0 := hF0
  refine lv_aload_n hx hb dL_refused_0 rfl (lv_at hl 0 rfl) ?_
  have k1 := c_L_asks l hlf g M x cs hW hF0 rf0.2.2.ln
  have lp1 := askS_P (ns := 6) (np := 3) (nh := 2) (nc := 5) rf0.2.2.ln
  obtain ⟨c1, ec1⟩ : ∃ cX, askS cs 6 3 2 5 = cX := ⟨_, rfl⟩
  rw [ec1] at k1
  rw [ec1] at lp1
  refine k_S1 hc [.ref x] cw_L_278 dL_refused_1 k1 hM hS hl.1 rfl rfl ⟨Nat.le_of_ble_eq_true rfl, Nat.le_of_ble_eq_true rfl⟩ ⟨Nat.le_of_ble_eq_true rfl, Nat.le_of_ble_eq_true rfl⟩ (Nat.le_of_ble_eq_true rfl) (fun H locs hM hS => ?_)
  have rf1 : Rfd cs c1 := rf0.tr (lp1.rfd rf0.2.2)
  have hF1 : FI 6 3 2 5 t dh cu (c1 0) := by rw [rf1.1]; exact hF0
  refine lv_lstore_n (lv' := [(1, .long (askV cs 6 3 2 5)), (0, .ref x)]) hx hb dL_refused_4 rfl hl (by decide) (by rfl) (fun ls hl => ?_)
  refine lv_aload_n hx hb dL_refused_5 rfl (lv_at hl 1 rfl) ?_
  refine lv_iconst (v := 4) hx hb dL_refused_6 (by decide) ?_
  have k1 := h_account l hlf g (putC g M x c1) x c1 4 ClsAt.put
  rw [show v_account c1 4 = 6 from ac_4 hF1] at k1
  refine k_SX1 hc [.ref x, .int 4] cw_L_205 dL_refused_7 k1 hM hS hl.1 rfl rfl ⟨Nat.le_of_ble_eq_true rfl, Nat.le_of_ble_eq_true rfl⟩ ⟨Nat.le_of_ble_eq_true rfl, Nat.le_of_ble_eq_true rfl⟩ (Nat.le_of_ble_eq_true rfl) (fun H locs hM hS => ?_)
  refine lv_istore_n (lv' := [(3, .int 6), (1, .long (askV cs 6 3 2 5)), (0, .ref x)]) hx hb dL_refused_10 rfl hl (by decide) rfl (fun ls hl => ?_)
  refine lv_aload_n hx hb dL_refused_11 rfl (lv_at hl 2 rfl) ?_
  refine lv_iconst (v := 5) hx hb dL_refused_12 (by decide) ?_
  have k2 := h_account l hlf g (putC g M x c1) x c1 5 ClsAt.put
  rw [show v_account c1 5 = 3 from ac_5 hF1] at k2
  refine k_SX1 hc [.ref x, .int 5] cw_L_205 dL_refused_13 k2 hM hS hl.1 rfl rfl ⟨Nat.le_of_ble_eq_true rfl, Nat.le_of_ble_eq_true rfl⟩ ⟨Nat.le_of_ble_eq_true rfl, Nat.le_of_ble_eq_true rfl⟩ (Nat.le_of_ble_eq_true rfl) (fun H locs hM hS => ?_)
  refine lv_istore (lv' := [(4, .int 3), (3, .int 6), (1, .long (askV cs 6 3 2 5)), (0, .ref x)]) hx hb dL_refused_16 hl (by decide) rfl (fun ls hl => ?_)
  refine lv_aload_n hx hb dL_refused_18 rfl (lv_at hl 3 rfl) ?_
  refine lv_bipush (v := 6) hx hb dL_refused_19 (by decide) ?_
  have k3 := h_account l hlf g (putC g M x c1) x c1 6 ClsAt.put
  rw [show v_account c1 6 = 2 from ac_6 hF1] at k3
  refine k_SX1 hc [.ref x, .int 6] cw_L_205 dL_refused_21 k3 hM hS hl.1 rfl rfl ⟨Nat.le_of_ble_eq_true rfl, Nat.le_of_ble_eq_true rfl⟩ ⟨Nat.le_of_ble_eq_true rfl, Nat.le_of_ble_eq_true rfl⟩ (Nat.le_of_ble_eq_true rfl) (fun H locs hM hS => ?_)
  refine lv_istore (lv' := [(5, .int 2), (4, .int 3), (3, .int 6), (1, .long (askV cs 6 3 2 5)), (0, .ref x)]) hx hb dL_refused_24 hl (by decide) rfl (fun ls hl => ?_)
  refine lv_aload_n hx hb dL_refused_26 rfl (lv_at hl 4 rfl) ?_
  refine lv_bipush (v := 8) hx hb dL_refused_27 (by decide) ?_
  have k4 := h_account l hlf g (putC g M x c1) x c1 8 ClsAt.put
  rw [show v_account c1 8 = 5 from ac_8 hF1] at k4
  refine k_SX1 hc [.ref x, .int 8] cw_L_205 dL_refused_29 k4 hM hS hl.1 rfl rfl ⟨Nat.le_of_ble_eq_true rfl, Nat.le_of_ble_eq_true rfl⟩ ⟨Nat.le_of_ble_eq_true rfl, Nat.le_of_ble_eq_true rfl⟩ (Nat.le_of_ble_eq_true rfl) (fun H locs hM hS => ?_)
  refine lv_istore (lv' := [(6, .int 5), (5, .int 2), (4, .int 3), (3, .int 6), (1, .long (askV cs 6 3 2 5)), (0, .ref x)]) hx hb dL_refused_32 hl (by decide) rfl (fun ls hl => ?_)
  refine lv_aload_n hx hb dL_refused_34 rfl (lv_at hl 5 rfl) ?_
  refine lv_iconst (v := (-1)) hx hb dL_refused_35 (by decide) ?_
  have k2 := h_stake l hlf g (putC g M x c1) x c1 (-1) ClsAt.put (hR0.keep rf1.2.1).ok
  obtain ⟨q2, p2, x2, y2, z2, -⟩ := op_refE (c := c1) (rf_ds_m hF1) rf1.2.2
  obtain ⟨c2, ec2⟩ : ∃ cX, s_stake c1 (-1) = cX := ⟨_, rfl⟩
  rw [ec2, putC_putC, show v_stake c1 (-1) = -1001 from q2] at k2
  rw [show sO c1 (dsO (c1 0) (-1)) = c2 from ec2] at p2 x2 y2 z2
  clear ec2 q2
  refine k_SX1 hc [.ref x, .int (-1)] cw_L_172 dL_refused_36 k2 hM hS hl.1 rfl rfl ⟨Nat.le_of_ble_eq_true rfl, Nat.le_of_ble_eq_true rfl⟩ ⟨Nat.le_of_ble_eq_true rfl, Nat.le_of_ble_eq_true rfl⟩ (Nat.le_of_ble_eq_true rfl) (fun H locs hM hS => ?_)
  have rf2 : Rfd cs c2 := rf1.tr p2
  have hF2 : FI 6 3 2 5 t dh cu (c2 0) := by rw [rf2.1]; exact hF0
  refine lv_sipush (v := (-1001)) hx hb dL_refused_39 (by decide) ?_
  refine lv_icmp_ne (tgt := 445) hx hb dL_refused_42 (by decide) (fun c_42 => absurd c_42 (by decide)) (fun c_42 => ?_)
  refine lv_aload_n hx hb dL_refused_45 rfl (lv_at hl 5 rfl) ?_
  refine lv_iconst (v := 1) hx hb dL_refused_46 (by decide) ?_
  refine lv_iconst (v := 0) hx hb dL_refused_47 (by decide) ?_
  refine lv_iconst (v := 0) hx hb dL_refused_48 (by decide) ?_
  have k_is := c_L_is l hlf g (putC g M x c2) x c2 1 0 0 ClsAt.put
  rw [show v_is c2 1 0 0 = 1 from is_1 (by decide) x2 y2 z2] at k_is
  refine k_S1 hc [.ref x, .int 1, .int 0, .int 0] cw_L_282 dL_refused_49 k_is hM hS hl.1 rfl rfl ⟨Nat.le_of_ble_eq_true rfl, Nat.le_of_ble_eq_true rfl⟩ ⟨Nat.le_of_ble_eq_true rfl, Nat.le_of_ble_eq_true rfl⟩ (Nat.le_of_ble_eq_true rfl) (fun H locs hM hS => ?_)
  refine lv_if_eq (tgt := 445) hx hb dL_refused_52 (by decide) (fun c_52 => absurd c_52 (by decide)) (fun c_52 => ?_)
  refine lv_aload_n hx hb dL_refused_55 rfl (lv_at hl 5 rfl) ?_
  refine lv_bipush (v := 100) hx hb dL_refused_56 (by decide) ?_
  have k3 := h_stake l hlf g (putC g M x c2) x c2 100 ClsAt.put (hR0.keep rf2.2.1).ok
  obtain ⟨q3, p3, x3, y3, z3, -⟩ := op_refE (c := c2) (rf_ds_c hF2) rf2.2.2
  obtain ⟨c3, ec3⟩ : ∃ cX, s_stake c2 100 = cX := ⟨_, rfl⟩
  rw [ec3, putC_putC, show v_stake c2 100 = -1001 from q3] at k3
  rw [show sO c2 (dsO (c2 0) 100) = c3 from ec3] at p3 x3 y3 z3
  clear ec3 q3
  refine k_SX1 hc [.ref x, .int 100] cw_L_172 dL_refused_58 k3 hM hS hl.1 rfl rfl ⟨Nat.le_of_ble_eq_true rfl, Nat.le_of_ble_eq_true rfl⟩ ⟨Nat.le_of_ble_eq_true rfl, Nat.le_of_ble_eq_true rfl⟩ (Nat.le_of_ble_eq_true rfl) (fun H locs hM hS => ?_)
  have rf3 : Rfd cs c3 := rf2.tr p3
  have hF3 : FI 6 3 2 5 t dh cu (c3 0) := by rw [rf3.1]; exact hF0
  refine lv_sipush (v := (-1001)) hx hb dL_refused_61 (by decide) ?_
  refine lv_icmp_ne (tgt := 445) hx hb dL_refused_64 (by decide) (fun c_64 => absurd c_64 (by decide)) (fun c_64 => ?_)
  refine lv_aload_n hx hb dL_refused_67 rfl (lv_at hl 5 rfl) ?_
  refine lv_aload_n hx hb dL_refused_68 rfl (lv_at hl 5 rfl) ?_
  refine lv_iconst (v := 1) hx hb dL_refused_69 (by decide) ?_
  have k5 := h_stakeAt l hlf g (putC g M x c3) x c3 1 ClsAt.put
  rw [show v_stakeAt c3 1 = (c3 0 0 1) from by unfold v_stakeAt; rw [if_pos (no_S hF3).2.2.2, show gS (c3 0) 1 = rget 10 (c3 0 8 0) (c3 0 0) (nI 1) from rfl, hF3.2.1.1]; exact rget_k (by omega) (by omega) (by decide)] at k5
  refine k_SX1 hc [.ref x, .int 1] cw_L_207 dL_refused_70 k5 hM hS hl.1 rfl rfl ⟨Nat.le_of_ble_eq_true rfl, Nat.le_of_ble_eq_true rfl⟩ ⟨Nat.le_of_ble_eq_true rfl, Nat.le_of_ble_eq_true rfl⟩ (Nat.le_of_ble_eq_true rfl) (fun H locs hM hS => ?_)
  have k4 := h_stake l hlf g (putC g M x c3) x c3 (c3 0 0 1) ClsAt.put (hR0.keep rf3.2.1).ok
  obtain ⟨q4, p4, x4, y4, z4, -⟩ := op_refE (c := c3) (ds_4 hF3 (hS6.of (by rw [rf3.1]))) rf3.2.2
  obtain ⟨c4, ec4⟩ : ∃ cX, s_stake c3 (c3 0 0 1) = cX := ⟨_, rfl⟩
  rw [ec4, putC_putC, show v_stake c3 (c3 0 0 1) = -1001 from q4] at k4
  rw [show sO c3 (dsO (c3 0) (c3 0 0 1)) = c4 from ec4] at p4 x4 y4 z4
  clear ec4 q4
  refine k_SX1 hc [.ref x, .int (c3 0 0 1)] cw_L_172 dL_refused_73 k4 hM hS hl.1 rfl rfl ⟨Nat.le_of_ble_eq_true rfl, Nat.le_of_ble_eq_true rfl⟩ ⟨Nat.le_of_ble_eq_true rfl, Nat.le_of_ble_eq_true rfl⟩ (Nat.le_of_ble_eq_true rfl) (fun H locs hM hS => ?_)
  have rf4 : Rfd cs c4 := rf3.tr p4
  have hF4 : FI 6 3 2 5 t dh cu (c4 0) := by rw [rf4.1]; exact hF0
  refine lv_sipush (v := (-1001)) hx hb dL_refused_76 (by decide) ?_
  refine lv_icmp_ne (tgt := 445) hx hb dL_refused_79 (by decide) (fun c_79 => absurd c_79 (by decide)) (fun c_79 => ?_)
  refine lv_aload_n hx hb dL_refused_82 rfl (lv_at hl 5 rfl) ?_
  refine lv_iconst (v := 4) hx hb dL_refused_83 (by decide) ?_
  refine lv_iconst (v := 1) hx hb dL_refused_84 (by decide) ?_
  refine lv_iconst (v := 0) hx hb dL_refused_85 (by decide) ?_
  have k_is := c_L_is l hlf g (putC g M x c4) x c4 4 1 0 ClsAt.put
  rw [show v_is c4 4 1 0 = 1 from is_1 (by decide) x4 y4 z4] at k_is
  refine k_S1 hc [.ref x, .int 4, .int 1, .int 0] cw_L_282 dL_refused_86 k_is hM hS hl.1 rfl rfl ⟨Nat.le_of_ble_eq_true rfl, Nat.le_of_ble_eq_true rfl⟩ ⟨Nat.le_of_ble_eq_true rfl, Nat.le_of_ble_eq_true rfl⟩ (Nat.le_of_ble_eq_true rfl) (fun H locs hM hS => ?_)
  refine lv_if_eq (tgt := 445) hx hb dL_refused_89 (by decide) (fun c_89 => absurd c_89 (by decide)) (fun c_89 => ?_)
  refine lv_aload_n hx hb dL_refused_92 rfl (lv_at hl 5 rfl) ?_
  refine lv_bipush (v := 100) hx hb dL_refused_93 (by decide) ?_
  refine lv_iconst (v := 1) hx hb dL_refused_95 (by decide) ?_
  have k5 := h_post l hlf g (putC g M x c4) x c4 100 1 ClsAt.put (hR0.keep rf4.2.1).ok
  obtain ⟨q5, p5, x5, y5, z5, -⟩ := op_refE (c := c4) (rf_sp_c hF4) rf4.2.2
  obtain ⟨c5, ec5⟩ : ∃ cX, s_post c4 100 1 = cX := ⟨_, rfl⟩
  rw [ec5, putC_putC, show v_post c4 100 1 = -1001 from q5] at k5
  rw [show sO c4 (spO (c4 0) 100 1) = c5 from ec5] at p5 x5 y5 z5
  clear ec5 q5
  refine k_SX1 hc [.ref x, .int 100, .int 1] cw_L_174 dL_refused_96 k5 hM hS hl.1 rfl rfl ⟨Nat.le_of_ble_eq_true rfl, Nat.le_of_ble_eq_true rfl⟩ ⟨Nat.le_of_ble_eq_true rfl, Nat.le_of_ble_eq_true rfl⟩ (Nat.le_of_ble_eq_true rfl) (fun H locs hM hS => ?_)
  have rf5 : Rfd cs c5 := rf4.tr p5
  have hF5 : FI 6 3 2 5 t dh cu (c5 0) := by rw [rf5.1]; exact hF0
  refine lv_sipush (v := (-1001)) hx hb dL_refused_99 (by decide) ?_
  refine lv_icmp_ne (tgt := 445) hx hb dL_refused_102 (by decide) (fun c_102 => absurd c_102 (by decide)) (fun c_102 => ?_)
  refine lv_aload_n hx hb dL_refused_105 rfl (lv_at hl 5 rfl) ?_
  refine lv_iconst (v := 1) hx hb dL_refused_106 (by decide) ?_
  refine lv_iconst (v := 0) hx hb dL_refused_107 (by decide) ?_
  refine lv_iconst (v := 0) hx hb dL_refused_108 (by decide) ?_
  have k_is := c_L_is l hlf g (putC g M x c5) x c5 1 0 0 ClsAt.put
  rw [show v_is c5 1 0 0 = 1 from is_1 (by decide) x5 y5 z5] at k_is
  refine k_S1 hc [.ref x, .int 1, .int 0, .int 0] cw_L_282 dL_refused_109 k_is hM hS hl.1 rfl rfl ⟨Nat.le_of_ble_eq_true rfl, Nat.le_of_ble_eq_true rfl⟩ ⟨Nat.le_of_ble_eq_true rfl, Nat.le_of_ble_eq_true rfl⟩ (Nat.le_of_ble_eq_true rfl) (fun H locs hM hS => ?_)
  refine lv_if_eq (tgt := 445) hx hb dL_refused_112 (by decide) (fun c_112 => absurd c_112 (by decide)) (fun c_112 => ?_)
  refine lv_aload_n hx hb dL_refused_115 rfl (lv_at hl 5 rfl) ?_
  refine lv_iconst (v := 0) hx hb dL_refused_116 (by decide) ?_
  refine lv_iconst (v := 0) hx hb dL_refused_117 (by decide) ?_
  have k6 := h_post l hlf g (putC g M x c5) x c5 0 0 ClsAt.put (hR0.keep rf5.2.1).ok
  obtain ⟨q6, p6, x6, y6, z6, -⟩ := op_refE (c := c5) (rf_sp_0 hF5) rf5.2.2
  obtain ⟨c6, ec6⟩ : ∃ cX, s_post c5 0 0 = cX := ⟨_, rfl⟩
  rw [ec6, putC_putC, show v_post c5 0 0 = -1001 from q6] at k6
  rw [show sO c5 (spO (c5 0) 0 0) = c6 from ec6] at p6 x6 y6 z6
  clear ec6 q6
  refine k_SX1 hc [.ref x, .int 0, .int 0] cw_L_174 dL_refused_118 k6 hM hS hl.1 rfl rfl ⟨Nat.le_of_ble_eq_true rfl, Nat.le_of_ble_eq_true rfl⟩ ⟨Nat.le_of_ble_eq_true rfl, Nat.le_of_ble_eq_true rfl⟩ (Nat.le_of_ble_eq_true rfl) (fun H locs hM hS => ?_)
  have rf6 : Rfd cs c6 := rf5.tr p6
  have hF6 : FI 6 3 2 5 t dh cu (c6 0) := by rw [rf6.1]; exact hF0
  refine lv_sipush (v := (-1001)) hx hb dL_refused_121 (by decide) ?_
  refine lv_icmp_ne (tgt := 445) hx hb dL_refused_124 (by decide) (fun c_124 => absurd c_124 (by decide)) (fun c_124 => ?_)
  refine lv_aload_n hx hb dL_refused_127 rfl (lv_at hl 5 rfl) ?_
  refine lv_iconst (v := 0) hx hb dL_refused_128 (by decide) ?_
  refine lv_bipush (v := 10) hx hb dL_refused_129 (by decide) ?_
  have k7 := h_post l hlf g (putC g M x c6) x c6 0 10 ClsAt.put (hR0.keep rf6.2.1).ok
  obtain ⟨q7, p7, x7, y7, z7, -⟩ := op_refE (c := c6) (rf_sp_10 hF6) rf6.2.2
  obtain ⟨c7, ec7⟩ : ∃ cX, s_post c6 0 10 = cX := ⟨_, rfl⟩
  rw [ec7, putC_putC, show v_post c6 0 10 = -1001 from q7] at k7
  rw [show sO c6 (spO (c6 0) 0 10) = c7 from ec7] at p7 x7 y7 z7
  clear ec7 q7
  refine k_SX1 hc [.ref x, .int 0, .int 10] cw_L_174 dL_refused_131 k7 hM hS hl.1 rfl rfl ⟨Nat.le_of_ble_eq_true rfl, Nat.le_of_ble_eq_true rfl⟩ ⟨Nat.le_of_ble_eq_true rfl, Nat.le_of_ble_eq_true rfl⟩ (Nat.le_of_ble_eq_true rfl) (fun H locs hM hS => ?_)
  have rf7 : Rfd cs c7 := rf6.tr p7
  have hF7 : FI 6 3 2 5 t dh cu (c7 0) := by rw [rf7.1]; exact hF0
  refine lv_sipush (v := (-1001)) hx hb dL_refused_134 (by decide) ?_
  refine lv_icmp_ne (tgt := 445) hx hb dL_refused_137 (by decide) (fun c_137 => absurd c_137 (by decide)) (fun c_137 => ?_)
  refine lv_aload_n hx hb dL_refused_140 rfl (lv_at hl 5 rfl) ?_
  refine lv_bipush (v := 10) hx hb dL_refused_141 (by decide) ?_
  have k8 := h_heat l hlf g (putC g M x c7) x c7 10 ClsAt.put (hR0.keep rf7.2.1).ok
  obtain ⟨q8, p8, x8, y8, z8, -⟩ := op_refE (c := c7) (rf_sh_10 hF7) rf7.2.2
  obtain ⟨c8, ec8⟩ : ∃ cX, s_heat c7 10 = cX := ⟨_, rfl⟩
  rw [ec8, putC_putC, show v_heat c7 10 = -1001 from q8] at k8
  rw [show sO c7 (shO (c7 0) 10) = c8 from ec8] at p8 x8 y8 z8
  clear ec8 q8
  refine k_SX1 hc [.ref x, .int 10] cw_L_181 dL_refused_143 k8 hM hS hl.1 rfl rfl ⟨Nat.le_of_ble_eq_true rfl, Nat.le_of_ble_eq_true rfl⟩ ⟨Nat.le_of_ble_eq_true rfl, Nat.le_of_ble_eq_true rfl⟩ (Nat.le_of_ble_eq_true rfl) (fun H locs hM hS => ?_)
  have rf8 : Rfd cs c8 := rf7.tr p8
  have hF8 : FI 6 3 2 5 t dh cu (c8 0) := by rw [rf8.1]; exact hF0
  refine lv_sipush (v := (-1001)) hx hb dL_refused_146 (by decide) ?_
  refine lv_icmp_ne (tgt := 445) hx hb dL_refused_149 (by decide) (fun c_149 => absurd c_149 (by decide)) (fun c_149 => ?_)
  refine lv_aload_n hx hb dL_refused_152 rfl (lv_at hl 5 rfl) ?_
  refine lv_iconst (v := (-1)) hx hb dL_refused_153 (by decide) ?_
  have k9 := h_heat l hlf g (putC g M x c8) x c8 (-1) ClsAt.put (hR0.keep rf8.2.1).ok
  obtain ⟨q9, p9, x9, y9, z9, -⟩ := op_refE (c := c8) (rf_sh_m hF8) rf8.2.2
  obtain ⟨c9, ec9⟩ : ∃ cX, s_heat c8 (-1) = cX := ⟨_, rfl⟩
  rw [ec9, putC_putC, show v_heat c8 (-1) = -1001 from q9] at k9
  rw [show sO c8 (shO (c8 0) (-1)) = c9 from ec9] at p9 x9 y9 z9
  clear ec9 q9
  refine k_SX1 hc [.ref x, .int (-1)] cw_L_181 dL_refused_154 k9 hM hS hl.1 rfl rfl ⟨Nat.le_of_ble_eq_true rfl, Nat.le_of_ble_eq_true rfl⟩ ⟨Nat.le_of_ble_eq_true rfl, Nat.le_of_ble_eq_true rfl⟩ (Nat.le_of_ble_eq_true rfl) (fun H locs hM hS => ?_)
  have rf9 : Rfd cs c9 := rf8.tr p9
  have hF9 : FI 6 3 2 5 t dh cu (c9 0) := by rw [rf9.1]; exact hF0
  refine lv_sipush (v := (-1001)) hx hb dL_refused_157 (by decide) ?_
  refine lv_icmp_ne (tgt := 445) hx hb dL_refused_160 (by decide) (fun c_160 => absurd c_160 (by decide)) (fun c_160 => ?_)
  refine lv_aload_n hx hb dL_refused_163 rfl (lv_at hl 5 rfl) ?_
  refine lv_iload_n hx hb dL_refused_164 rfl (lv_at hl 3 rfl) ?_
  refine lv_iload hx hb dL_refused_165 (lv_at hl 2 rfl) ?_
  refine lv_iload hx hb dL_refused_167 (lv_at hl 1 rfl) ?_
  have k10 := h_sight l hlf g (putC g M x c9) x c9 6 3 2 ClsAt.put (hR0.keep rf9.2.1).ok
  obtain ⟨q10, p10, x10, y10, z10, -⟩ := op_refE (c := c9) (rf_sg_6 hF9) rf9.2.2
  obtain ⟨c10, ec10⟩ : ∃ cX, s_sight c9 6 3 2 = cX := ⟨_, rfl⟩
  rw [ec10, putC_putC, show v_sight c9 6 3 2 = -1001 from q10] at k10
  rw [show sO c9 (sgO (c9 0) 6 3 2) = c10 from ec10] at p10 x10 y10 z10
  clear ec10 q10
  refine k_SX1 hc [.ref x, .int 6, .int 3, .int 2] cw_L_234 dL_refused_169 k10 hM hS hl.1 rfl rfl ⟨Nat.le_of_ble_eq_true rfl, Nat.le_of_ble_eq_true rfl⟩ ⟨Nat.le_of_ble_eq_true rfl, Nat.le_of_ble_eq_true rfl⟩ (Nat.le_of_ble_eq_true rfl) (fun H locs hM hS => ?_)
  have rf10 : Rfd cs c10 := rf9.tr p10
  have hF10 : FI 6 3 2 5 t dh cu (c10 0) := by rw [rf10.1]; exact hF0
  refine lv_sipush (v := (-1001)) hx hb dL_refused_172 (by decide) ?_
  refine lv_icmp_ne (tgt := 445) hx hb dL_refused_175 (by decide) (fun c_175 => absurd c_175 (by decide)) (fun c_175 => ?_)
  refine lv_aload_n hx hb dL_refused_178 rfl (lv_at hl 5 rfl) ?_
  refine lv_iconst (v := 3) hx hb dL_refused_179 (by decide) ?_
  refine lv_iload_n hx hb dL_refused_180 rfl (lv_at hl 3 rfl) ?_
  refine lv_iconst (v := 0) hx hb dL_refused_181 (by decide) ?_
  have k_is := c_L_is l hlf g (putC g M x c10) x c10 3 6 0 ClsAt.put
  rw [show v_is c10 3 6 0 = 1 from is_1 (by decide) x10 y10 z10] at k_is
  refine k_S1 hc [.ref x, .int 3, .int 6, .int 0] cw_L_282 dL_refused_182 k_is hM hS hl.1 rfl rfl ⟨Nat.le_of_ble_eq_true rfl, Nat.le_of_ble_eq_true rfl⟩ ⟨Nat.le_of_ble_eq_true rfl, Nat.le_of_ble_eq_true rfl⟩ (Nat.le_of_ble_eq_true rfl) (fun H locs hM hS => ?_)
  refine lv_if_eq (tgt := 445) hx hb dL_refused_185 (by decide) (fun c_185 => absurd c_185 (by decide)) (fun c_185 => ?_)
  refine lv_aload_n hx hb dL_refused_188 rfl (lv_at hl 5 rfl) ?_
  refine lv_iconst (v := 0) hx hb dL_refused_189 (by decide) ?_
  refine lv_iload hx hb dL_refused_190 (lv_at hl 2 rfl) ?_
  refine lv_iconst (v := (-1)) hx hb dL_refused_192 (by decide) ?_
  have k11 := h_sight l hlf g (putC g M x c10) x c10 0 3 (-1) ClsAt.put (hR0.keep rf10.2.1).ok
  obtain ⟨q11, p11, x11, y11, z11, -⟩ := op_refE (c := c10) (rf_sg_3 hF10) rf10.2.2
  obtain ⟨c11, ec11⟩ : ∃ cX, s_sight c10 0 3 (-1) = cX := ⟨_, rfl⟩
  rw [ec11, putC_putC, show v_sight c10 0 3 (-1) = -1001 from q11] at k11
  rw [show sO c10 (sgO (c10 0) 0 3 (-1)) = c11 from ec11] at p11 x11 y11 z11
  clear ec11 q11
  refine k_SX1 hc [.ref x, .int 0, .int 3, .int (-1)] cw_L_234 dL_refused_193 k11 hM hS hl.1 rfl rfl ⟨Nat.le_of_ble_eq_true rfl, Nat.le_of_ble_eq_true rfl⟩ ⟨Nat.le_of_ble_eq_true rfl, Nat.le_of_ble_eq_true rfl⟩ (Nat.le_of_ble_eq_true rfl) (fun H locs hM hS => ?_)
  have rf11 : Rfd cs c11 := rf10.tr p11
  have hF11 : FI 6 3 2 5 t dh cu (c11 0) := by rw [rf11.1]; exact hF0
  refine lv_sipush (v := (-1001)) hx hb dL_refused_196 (by decide) ?_
  refine lv_icmp_ne (tgt := 445) hx hb dL_refused_199 (by decide) (fun c_199 => absurd c_199 (by decide)) (fun c_199 => ?_)
  refine lv_aload_n hx hb dL_refused_202 rfl (lv_at hl 5 rfl) ?_
  refine lv_iconst (v := 3) hx hb dL_refused_203 (by decide) ?_
  refine lv_iload hx hb dL_refused_204 (lv_at hl 2 rfl) ?_
  refine lv_iconst (v := 0) hx hb dL_refused_206 (by decide) ?_
  have k_is := c_L_is l hlf g (putC g M x c11) x c11 3 3 0 ClsAt.put
  rw [show v_is c11 3 3 0 = 1 from is_1 (by decide) x11 y11 z11] at k_is
  refine k_S1 hc [.ref x, .int 3, .int 3, .int 0] cw_L_282 dL_refused_207 k_is hM hS hl.1 rfl rfl ⟨Nat.le_of_ble_eq_true rfl, Nat.le_of_ble_eq_true rfl⟩ ⟨Nat.le_of_ble_eq_true rfl, Nat.le_of_ble_eq_true rfl⟩ (Nat.le_of_ble_eq_true rfl) (fun H locs hM hS => ?_)
  refine lv_if_eq (tgt := 445) hx hb dL_refused_210 (by decide) (fun c_210 => absurd c_210 (by decide)) (fun c_210 => ?_)
  refine lv_aload_n hx hb dL_refused_213 rfl (lv_at hl 5 rfl) ?_
  refine lv_iconst (v := 0) hx hb dL_refused_214 (by decide) ?_
  refine lv_iconst (v := 0) hx hb dL_refused_215 (by decide) ?_
  refine lv_iload hx hb dL_refused_216 (lv_at hl 1 rfl) ?_
  have k12 := h_sight l hlf g (putC g M x c11) x c11 0 0 2 ClsAt.put (hR0.keep rf11.2.1).ok
  obtain ⟨q12, p12, x12, y12, z12, -⟩ := op_refE (c := c11) (rf_sg_2 hF11) rf11.2.2
  obtain ⟨c12, ec12⟩ : ∃ cX, s_sight c11 0 0 2 = cX := ⟨_, rfl⟩
  rw [ec12, putC_putC, show v_sight c11 0 0 2 = -1001 from q12] at k12
  rw [show sO c11 (sgO (c11 0) 0 0 2) = c12 from ec12] at p12 x12 y12 z12
  clear ec12 q12
  refine k_SX1 hc [.ref x, .int 0, .int 0, .int 2] cw_L_234 dL_refused_218 k12 hM hS hl.1 rfl rfl ⟨Nat.le_of_ble_eq_true rfl, Nat.le_of_ble_eq_true rfl⟩ ⟨Nat.le_of_ble_eq_true rfl, Nat.le_of_ble_eq_true rfl⟩ (Nat.le_of_ble_eq_true rfl) (fun H locs hM hS => ?_)
  have rf12 : Rfd cs c12 := rf11.tr p12
  have hF12 : FI 6 3 2 5 t dh cu (c12 0) := by rw [rf12.1]; exact hF0
  refine lv_sipush (v := (-1001)) hx hb dL_refused_221 (by decide) ?_
  refine lv_icmp_ne (tgt := 445) hx hb dL_refused_224 (by decide) (fun c_224 => absurd c_224 (by decide)) (fun c_224 => ?_)
  refine lv_aload_n hx hb dL_refused_227 rfl (lv_at hl 5 rfl) ?_
  refine lv_iconst (v := 3) hx hb dL_refused_228 (by decide) ?_
  refine lv_iload hx hb dL_refused_229 (lv_at hl 1 rfl) ?_
  refine lv_iconst (v := 0) hx hb dL_refused_231 (by decide) ?_
  have k_is := c_L_is l hlf g (putC g M x c12) x c12 3 2 0 ClsAt.put
  rw [show v_is c12 3 2 0 = 1 from is_1 (by decide) x12 y12 z12] at k_is
  refine k_S1 hc [.ref x, .int 3, .int 2, .int 0] cw_L_282 dL_refused_232 k_is hM hS hl.1 rfl rfl ⟨Nat.le_of_ble_eq_true rfl, Nat.le_of_ble_eq_true rfl⟩ ⟨Nat.le_of_ble_eq_true rfl, Nat.le_of_ble_eq_true rfl⟩ (Nat.le_of_ble_eq_true rfl) (fun H locs hM hS => ?_)
  refine lv_if_eq (tgt := 445) hx hb dL_refused_235 (by decide) (fun c_235 => absurd c_235 (by decide)) (fun c_235 => ?_)
  refine lv_aload_n hx hb dL_refused_238 rfl (lv_at hl 5 rfl) ?_
  refine lv_iconst (v := (-1)) hx hb dL_refused_239 (by decide) ?_
  refine lv_iconst (v := 0) hx hb dL_refused_240 (by decide) ?_
  have k13 := h_erase l hlf g (putC g M x c12) x c12 (-1) 0 ClsAt.put (hR0.keep rf12.2.1).ok
  obtain ⟨q13, p13, x13, y13, z13, -⟩ := op_refE (c := c12) (rf_er_m hF12) rf12.2.2
  obtain ⟨c13, ec13⟩ : ∃ cX, s_erase c12 (-1) 0 = cX := ⟨_, rfl⟩
  rw [ec13, putC_putC, show v_erase c12 (-1) 0 = -1001 from q13] at k13
  rw [show sO c12 (erO (c12 0) (-1) 0) = c13 from ec13] at p13 x13 y13 z13
  clear ec13 q13
  refine k_SX1 hc [.ref x, .int (-1), .int 0] cw_L_237 dL_refused_241 k13 hM hS hl.1 rfl rfl ⟨Nat.le_of_ble_eq_true rfl, Nat.le_of_ble_eq_true rfl⟩ ⟨Nat.le_of_ble_eq_true rfl, Nat.le_of_ble_eq_true rfl⟩ (Nat.le_of_ble_eq_true rfl) (fun H locs hM hS => ?_)
  have rf13 : Rfd cs c13 := rf12.tr p13
  have hF13 : FI 6 3 2 5 t dh cu (c13 0) := by rw [rf13.1]; exact hF0
  refine lv_sipush (v := (-1001)) hx hb dL_refused_244 (by decide) ?_
  refine lv_icmp_ne (tgt := 445) hx hb dL_refused_247 (by decide) (fun c_247 => absurd c_247 (by decide)) (fun c_247 => ?_)
  refine lv_aload_n hx hb dL_refused_250 rfl (lv_at hl 5 rfl) ?_
  refine lv_iconst (v := 3) hx hb dL_refused_251 (by decide) ?_
  refine lv_iconst (v := (-1)) hx hb dL_refused_252 (by decide) ?_
  refine lv_iconst (v := 0) hx hb dL_refused_253 (by decide) ?_
  have k_is := c_L_is l hlf g (putC g M x c13) x c13 3 (-1) 0 ClsAt.put
  rw [show v_is c13 3 (-1) 0 = 1 from is_1 (by decide) x13 y13 z13] at k_is
  refine k_S1 hc [.ref x, .int 3, .int (-1), .int 0] cw_L_282 dL_refused_254 k_is hM hS hl.1 rfl rfl ⟨Nat.le_of_ble_eq_true rfl, Nat.le_of_ble_eq_true rfl⟩ ⟨Nat.le_of_ble_eq_true rfl, Nat.le_of_ble_eq_true rfl⟩ (Nat.le_of_ble_eq_true rfl) (fun H locs hM hS => ?_)
  refine lv_if_eq (tgt := 445) hx hb dL_refused_257 (by decide) (fun c_257 => absurd c_257 (by decide)) (fun c_257 => ?_)
  refine lv_aload_n hx hb dL_refused_260 rfl (lv_at hl 5 rfl) ?_
  refine lv_iconst (v := 0) hx hb dL_refused_261 (by decide) ?_
  refine lv_iload hx hb dL_refused_262 (lv_at hl 1 rfl) ?_
  have k14 := h_erase l hlf g (putC g M x c13) x c13 0 2 ClsAt.put (hR0.keep rf13.2.1).ok
  obtain ⟨q14, p14, x14, y14, z14, -⟩ := op_refE (c := c13) (rf_er_2 hF13) rf13.2.2
  obtain ⟨c14, ec14⟩ : ∃ cX, s_erase c13 0 2 = cX := ⟨_, rfl⟩
  rw [ec14, putC_putC, show v_erase c13 0 2 = -1001 from q14] at k14
  rw [show sO c13 (erO (c13 0) 0 2) = c14 from ec14] at p14 x14 y14 z14
  clear ec14 q14
  refine k_SX1 hc [.ref x, .int 0, .int 2] cw_L_237 dL_refused_264 k14 hM hS hl.1 rfl rfl ⟨Nat.le_of_ble_eq_true rfl, Nat.le_of_ble_eq_true rfl⟩ ⟨Nat.le_of_ble_eq_true rfl, Nat.le_of_ble_eq_true rfl⟩ (Nat.le_of_ble_eq_true rfl) (fun H locs hM hS => ?_)
  have rf14 : Rfd cs c14 := rf13.tr p14
  have hF14 : FI 6 3 2 5 t dh cu (c14 0) := by rw [rf14.1]; exact hF0
  refine lv_sipush (v := (-1001)) hx hb dL_refused_267 (by decide) ?_
  refine lv_icmp_ne (tgt := 445) hx hb dL_refused_270 (by decide) (fun c_270 => absurd c_270 (by decide)) (fun c_270 => ?_)
  refine lv_aload_n hx hb dL_refused_273 rfl (lv_at hl 5 rfl) ?_
  refine lv_iconst (v := 3) hx hb dL_refused_274 (by decide) ?_
  refine lv_iload hx hb dL_refused_275 (lv_at hl 1 rfl) ?_
  refine lv_iconst (v := 0) hx hb dL_refused_277 (by decide) ?_
  have k_is := c_L_is l hlf g (putC g M x c14) x c14 3 2 0 ClsAt.put
  rw [show v_is c14 3 2 0 = 1 from is_1 (by decide) x14 y14 z14] at k_is
  refine k_S1 hc [.ref x, .int 3, .int 2, .int 0] cw_L_282 dL_refused_278 k_is hM hS hl.1 rfl rfl ⟨Nat.le_of_ble_eq_true rfl, Nat.le_of_ble_eq_true rfl⟩ ⟨Nat.le_of_ble_eq_true rfl, Nat.le_of_ble_eq_true rfl⟩ (Nat.le_of_ble_eq_true rfl) (fun H locs hM hS => ?_)
  refine lv_if_eq (tgt := 445) hx hb dL_refused_281 (by decide) (fun c_281 => absurd c_281 (by decide)) (fun c_281 => ?_)
  refine lv_aload_n hx hb dL_refused_284 rfl (lv_at hl 5 rfl) ?_
  refine lv_bipush (v := 100) hx hb dL_refused_285 (by decide) ?_
  have k15 := h_camel l hlf g (putC g M x c14) x c14 100 ClsAt.put (hR0.keep rf14.2.1).ok
  obtain ⟨q15, p15, x15, y15, z15, -⟩ := op_refE (c := c14) (rf_ca_c hF14) rf14.2.2
  obtain ⟨c15, ec15⟩ : ∃ cX, s_camel c14 100 = cX := ⟨_, rfl⟩
  rw [ec15, putC_putC, show v_camel c14 100 = -1001 from q15] at k15
  rw [show sO c14 (caO (c14 0) 100) = c15 from ec15] at p15 x15 y15 z15
  clear ec15 q15
  refine k_SX1 hc [.ref x, .int 100] cw_L_179 dL_refused_287 k15 hM hS hl.1 rfl rfl ⟨Nat.le_of_ble_eq_true rfl, Nat.le_of_ble_eq_true rfl⟩ ⟨Nat.le_of_ble_eq_true rfl, Nat.le_of_ble_eq_true rfl⟩ (Nat.le_of_ble_eq_true rfl) (fun H locs hM hS => ?_)
  have rf15 : Rfd cs c15 := rf14.tr p15
  have hF15 : FI 6 3 2 5 t dh cu (c15 0) := by rw [rf15.1]; exact hF0
  refine lv_sipush (v := (-1001)) hx hb dL_refused_290 (by decide) ?_
  refine lv_icmp_ne (tgt := 445) hx hb dL_refused_293 (by decide) (fun c_293 => absurd c_293 (by decide)) (fun c_293 => ?_)
  refine lv_aload_n hx hb dL_refused_296 rfl (lv_at hl 5 rfl) ?_
  refine lv_iconst (v := 1) hx hb dL_refused_297 (by decide) ?_
  refine lv_iconst (v := 0) hx hb dL_refused_298 (by decide) ?_
  refine lv_iconst (v := 0) hx hb dL_refused_299 (by decide) ?_
  have k_is := c_L_is l hlf g (putC g M x c15) x c15 1 0 0 ClsAt.put
  rw [show v_is c15 1 0 0 = 1 from is_1 (by decide) x15 y15 z15] at k_is
  refine k_S1 hc [.ref x, .int 1, .int 0, .int 0] cw_L_282 dL_refused_300 k_is hM hS hl.1 rfl rfl ⟨Nat.le_of_ble_eq_true rfl, Nat.le_of_ble_eq_true rfl⟩ ⟨Nat.le_of_ble_eq_true rfl, Nat.le_of_ble_eq_true rfl⟩ (Nat.le_of_ble_eq_true rfl) (fun H locs hM hS => ?_)
  refine lv_if_eq (tgt := 445) hx hb dL_refused_303 (by decide) (fun c_303 => absurd c_303 (by decide)) (fun c_303 => ?_)
  refine lv_aload_n hx hb dL_refused_306 rfl (lv_at hl 5 rfl) ?_
  refine lv_iconst (v := (-1)) hx hb dL_refused_307 (by decide) ?_
  have k16 := h_bell l hlf g (putC g M x c15) x c15 (-1) ClsAt.put (hR0.keep rf15.2.1).ok
  obtain ⟨q16, p16, x16, y16, z16, -⟩ := op_refE (c := c15) (rf_rb_m hF15) rf15.2.2
  obtain ⟨c16, ec16⟩ : ∃ cX, s_bell c15 (-1) = cX := ⟨_, rfl⟩
  rw [ec16, putC_putC, show v_bell c15 (-1) = -1001 from q16] at k16
  rw [show sO c15 (rbO (c15 0) (-1)) = c16 from ec16] at p16 x16 y16 z16
  clear ec16 q16
  refine k_SX1 hc [.ref x, .int (-1)] cw_L_239 dL_refused_308 k16 hM hS hl.1 rfl rfl ⟨Nat.le_of_ble_eq_true rfl, Nat.le_of_ble_eq_true rfl⟩ ⟨Nat.le_of_ble_eq_true rfl, Nat.le_of_ble_eq_true rfl⟩ (Nat.le_of_ble_eq_true rfl) (fun H locs hM hS => ?_)
  have rf16 : Rfd cs c16 := rf15.tr p16
  have hF16 : FI 6 3 2 5 t dh cu (c16 0) := by rw [rf16.1]; exact hF0
  refine lv_sipush (v := (-1001)) hx hb dL_refused_311 (by decide) ?_
  refine lv_icmp_ne (tgt := 445) hx hb dL_refused_314 (by decide) (fun c_314 => absurd c_314 (by decide)) (fun c_314 => ?_)
  refine lv_aload_n hx hb dL_refused_317 rfl (lv_at hl 5 rfl) ?_
  refine lv_bipush (v := 100) hx hb dL_refused_318 (by decide) ?_
  have k17 := h_bell l hlf g (putC g M x c16) x c16 100 ClsAt.put (hR0.keep rf16.2.1).ok
  obtain ⟨q17, p17, x17, y17, z17, -⟩ := op_refE (c := c16) (rf_rb_c hF16) rf16.2.2
  obtain ⟨c17, ec17⟩ : ∃ cX, s_bell c16 100 = cX := ⟨_, rfl⟩
  rw [ec17, putC_putC, show v_bell c16 100 = -1001 from q17] at k17
  rw [show sO c16 (rbO (c16 0) 100) = c17 from ec17] at p17 x17 y17 z17
  clear ec17 q17
  refine k_SX1 hc [.ref x, .int 100] cw_L_239 dL_refused_320 k17 hM hS hl.1 rfl rfl ⟨Nat.le_of_ble_eq_true rfl, Nat.le_of_ble_eq_true rfl⟩ ⟨Nat.le_of_ble_eq_true rfl, Nat.le_of_ble_eq_true rfl⟩ (Nat.le_of_ble_eq_true rfl) (fun H locs hM hS => ?_)
  have rf17 : Rfd cs c17 := rf16.tr p17
  have hF17 : FI 6 3 2 5 t dh cu (c17 0) := by rw [rf17.1]; exact hF0
  refine lv_sipush (v := (-1001)) hx hb dL_refused_323 (by decide) ?_
  refine lv_icmp_ne (tgt := 445) hx hb dL_refused_326 (by decide) (fun c_326 => absurd c_326 (by decide)) (fun c_326 => ?_)
  refine lv_aload_n hx hb dL_refused_329 rfl (lv_at hl 5 rfl) ?_
  refine lv_iload hx hb dL_refused_330 (lv_at hl 0 rfl) ?_
  have k18 := h_tie l hlf g (putC g M x c17) x c17 5 ClsAt.put (hR0.keep rf17.2.1).ok
  obtain ⟨q18, p18, x18, y18, z18, -⟩ := op_refE (c := c17) (rf_ti_5 hF17) rf17.2.2
  obtain ⟨c18, ec18⟩ : ∃ cX, s_tie c17 5 = cX := ⟨_, rfl⟩
  rw [ec18, putC_putC, show v_tie c17 5 = -1001 from q18] at k18
  rw [show sO c17 (tiO (c17 0) 5) = c18 from ec18] at p18 x18 y18 z18
  clear ec18 q18
  refine k_SX1 hc [.ref x, .int 5] cw_L_241 dL_refused_332 k18 hM hS hl.1 rfl rfl ⟨Nat.le_of_ble_eq_true rfl, Nat.le_of_ble_eq_true rfl⟩ ⟨Nat.le_of_ble_eq_true rfl, Nat.le_of_ble_eq_true rfl⟩ (Nat.le_of_ble_eq_true rfl) (fun H locs hM hS => ?_)
  have rf18 : Rfd cs c18 := rf17.tr p18
  have hF18 : FI 6 3 2 5 t dh cu (c18 0) := by rw [rf18.1]; exact hF0
  refine lv_sipush (v := (-1001)) hx hb dL_refused_335 (by decide) ?_
  refine lv_icmp_ne (tgt := 445) hx hb dL_refused_338 (by decide) (fun c_338 => absurd c_338 (by decide)) (fun c_338 => ?_)
  refine lv_aload_n hx hb dL_refused_341 rfl (lv_at hl 5 rfl) ?_
  refine lv_iconst (v := 3) hx hb dL_refused_342 (by decide) ?_
  refine lv_iload hx hb dL_refused_343 (lv_at hl 0 rfl) ?_
  refine lv_iconst (v := 0) hx hb dL_refused_345 (by decide) ?_
  have k_is := c_L_is l hlf g (putC g M x c18) x c18 3 5 0 ClsAt.put
  rw [show v_is c18 3 5 0 = 1 from is_1 (by decide) x18 y18 z18] at k_is
  refine k_S1 hc [.ref x, .int 3, .int 5, .int 0] cw_L_282 dL_refused_346 k_is hM hS hl.1 rfl rfl ⟨Nat.le_of_ble_eq_true rfl, Nat.le_of_ble_eq_true rfl⟩ ⟨Nat.le_of_ble_eq_true rfl, Nat.le_of_ble_eq_true rfl⟩ (Nat.le_of_ble_eq_true rfl) (fun H locs hM hS => ?_)
  refine lv_if_eq (tgt := 445) hx hb dL_refused_349 (by decide) (fun c_349 => absurd c_349 (by decide)) (fun c_349 => ?_)
  refine lv_aload_n hx hb dL_refused_352 rfl (lv_at hl 5 rfl) ?_
  refine lv_iconst (v := (-1)) hx hb dL_refused_353 (by decide) ?_
  have k19 := h_loose l hlf g (putC g M x c18) x c18 (-1) ClsAt.put (hR0.keep rf18.2.1).ok
  obtain ⟨q19, p19, x19, y19, z19, -⟩ := op_refE (c := c18) (rf_lo_m hF18) rf18.2.2
  obtain ⟨c19, ec19⟩ : ∃ cX, s_loose c18 (-1) = cX := ⟨_, rfl⟩
  rw [ec19, putC_putC, show v_loose c18 (-1) = -1001 from q19] at k19
  rw [show sO c18 (loO (c18 0) (-1)) = c19 from ec19] at p19 x19 y19 z19
  clear ec19 q19
  refine k_SX1 hc [.ref x, .int (-1)] cw_L_243 dL_refused_354 k19 hM hS hl.1 rfl rfl ⟨Nat.le_of_ble_eq_true rfl, Nat.le_of_ble_eq_true rfl⟩ ⟨Nat.le_of_ble_eq_true rfl, Nat.le_of_ble_eq_true rfl⟩ (Nat.le_of_ble_eq_true rfl) (fun H locs hM hS => ?_)
  have rf19 : Rfd cs c19 := rf18.tr p19
  have hF19 : FI 6 3 2 5 t dh cu (c19 0) := by rw [rf19.1]; exact hF0
  refine lv_sipush (v := (-1001)) hx hb dL_refused_357 (by decide) ?_
  refine lv_icmp_ne (tgt := 445) hx hb dL_refused_360 (by decide) (fun c_360 => absurd c_360 (by decide)) (fun c_360 => ?_)
  refine lv_aload_n hx hb dL_refused_363 rfl (lv_at hl 5 rfl) ?_
  refine lv_iconst (v := 3) hx hb dL_refused_364 (by decide) ?_
  refine lv_iconst (v := (-1)) hx hb dL_refused_365 (by decide) ?_
  refine lv_iconst (v := 0) hx hb dL_refused_366 (by decide) ?_
  have k_is := c_L_is l hlf g (putC g M x c19) x c19 3 (-1) 0 ClsAt.put
  rw [show v_is c19 3 (-1) 0 = 1 from is_1 (by decide) x19 y19 z19] at k_is
  refine k_S1 hc [.ref x, .int 3, .int (-1), .int 0] cw_L_282 dL_refused_367 k_is hM hS hl.1 rfl rfl ⟨Nat.le_of_ble_eq_true rfl, Nat.le_of_ble_eq_true rfl⟩ ⟨Nat.le_of_ble_eq_true rfl, Nat.le_of_ble_eq_true rfl⟩ (Nat.le_of_ble_eq_true rfl) (fun H locs hM hS => ?_)
  refine lv_if_eq (tgt := 445) hx hb dL_refused_370 (by decide) (fun c_370 => absurd c_370 (by decide)) (fun c_370 => ?_)
  refine lv_aload_n hx hb dL_refused_373 rfl (lv_at hl 5 rfl) ?_
  refine lv_iload hx hb dL_refused_374 (lv_at hl 0 rfl) ?_
  have k20 := h_drink l hlf g (putC g M x c19) x c19 5 ClsAt.put (hR0.keep rf19.2.1).ok
  obtain ⟨q20, p20, x20, y20, z20, -⟩ := op_refE (c := c19) (rf_wc_5 hF19) rf19.2.2
  obtain ⟨c20, ec20⟩ : ∃ cX, s_drink c19 5 = cX := ⟨_, rfl⟩
  rw [ec20, putC_putC, show v_drink c19 5 = -1001 from q20] at k20
  rw [show sO c19 (wcO (c19 0) 5) = c20 from ec20] at p20 x20 y20 z20
  clear ec20 q20
  refine k_SX1 hc [.ref x, .int 5] cw_L_245 dL_refused_376 k20 hM hS hl.1 rfl rfl ⟨Nat.le_of_ble_eq_true rfl, Nat.le_of_ble_eq_true rfl⟩ ⟨Nat.le_of_ble_eq_true rfl, Nat.le_of_ble_eq_true rfl⟩ (Nat.le_of_ble_eq_true rfl) (fun H locs hM hS => ?_)
  have rf20 : Rfd cs c20 := rf19.tr p20
  have hF20 : FI 6 3 2 5 t dh cu (c20 0) := by rw [rf20.1]; exact hF0
  refine lv_sipush (v := (-1001)) hx hb dL_refused_379 (by decide) ?_
  refine lv_icmp_ne (tgt := 445) hx hb dL_refused_382 (by decide) (fun c_382 => absurd c_382 (by decide)) (fun c_382 => ?_)
  refine lv_aload_n hx hb dL_refused_385 rfl (lv_at hl 5 rfl) ?_
  refine lv_iconst (v := 0) hx hb dL_refused_386 (by decide) ?_
  have k21 := h_water l hlf g (putC g M x c20) x c20 0 ClsAt.put (hR0.keep rf20.2.1).ok
  obtain ⟨q21, p21, x21, y21, z21, -⟩ := op_refE (c := c20) (rf_bw_0 hF20) rf20.2.2
  obtain ⟨c21, ec21⟩ : ∃ cX, s_water c20 0 = cX := ⟨_, rfl⟩
  rw [ec21, putC_putC, show v_water c20 0 = -1001 from q21] at k21
  rw [show sO c20 (bwO (c20 0) 0) = c21 from ec21] at p21 x21 y21 z21
  clear ec21 q21
  refine k_SX1 hc [.ref x, .int 0] cw_L_247 dL_refused_387 k21 hM hS hl.1 rfl rfl ⟨Nat.le_of_ble_eq_true rfl, Nat.le_of_ble_eq_true rfl⟩ ⟨Nat.le_of_ble_eq_true rfl, Nat.le_of_ble_eq_true rfl⟩ (Nat.le_of_ble_eq_true rfl) (fun H locs hM hS => ?_)
  have rf21 : Rfd cs c21 := rf20.tr p21
  have hF21 : FI 6 3 2 5 t dh cu (c21 0) := by rw [rf21.1]; exact hF0
  refine lv_sipush (v := (-1001)) hx hb dL_refused_390 (by decide) ?_
  refine lv_icmp_ne (tgt := 445) hx hb dL_refused_393 (by decide) (fun c_393 => absurd c_393 (by decide)) (fun c_393 => ?_)
  refine lv_aload_n hx hb dL_refused_396 rfl (lv_at hl 5 rfl) ?_
  refine lv_bipush (v := 101) hx hb dL_refused_397 (by decide) ?_
  have k22 := h_water l hlf g (putC g M x c21) x c21 101 ClsAt.put (hR0.keep rf21.2.1).ok
  obtain ⟨q22, p22, x22, y22, z22, -⟩ := op_refE (c := c21) (rf_bw_c hF21) rf21.2.2
  obtain ⟨c22, ec22⟩ : ∃ cX, s_water c21 101 = cX := ⟨_, rfl⟩
  rw [ec22, putC_putC, show v_water c21 101 = -1001 from q22] at k22
  rw [show sO c21 (bwO (c21 0) 101) = c22 from ec22] at p22 x22 y22 z22
  clear ec22 q22
  refine k_SX1 hc [.ref x, .int 101] cw_L_247 dL_refused_399 k22 hM hS hl.1 rfl rfl ⟨Nat.le_of_ble_eq_true rfl, Nat.le_of_ble_eq_true rfl⟩ ⟨Nat.le_of_ble_eq_true rfl, Nat.le_of_ble_eq_true rfl⟩ (Nat.le_of_ble_eq_true rfl) (fun H locs hM hS => ?_)
  have rf22 : Rfd cs c22 := rf21.tr p22
  have hF22 : FI 6 3 2 5 t dh cu (c22 0) := by rw [rf22.1]; exact hF0
  refine lv_sipush (v := (-1001)) hx hb dL_refused_402 (by decide) ?_
  refine lv_icmp_ne (tgt := 445) hx hb dL_refused_405 (by decide) (fun c_405 => absurd c_405 (by decide)) (fun c_405 => ?_)
  refine lv_aload_n hx hb dL_refused_408 rfl (lv_at hl 5 rfl) ?_
  refine lv_iconst (v := 0) hx hb dL_refused_409 (by decide) ?_
  have k23 := h_hours l hlf g (putC g M x c22) x c22 0 ClsAt.put (hR0.keep rf22.2.1).ok
  obtain ⟨q23, p23, x23, y23, z23, -⟩ := op_refE (c := c22) (rf_ph_0 hF22) rf22.2.2
  obtain ⟨c23, ec23⟩ : ∃ cX, s_hours c22 0 = cX := ⟨_, rfl⟩
  rw [ec23, putC_putC, show v_hours c22 0 = -1001 from q23] at k23
  rw [show sO c22 (phO (c22 0) 0) = c23 from ec23] at p23 x23 y23 z23
  clear ec23 q23
  refine k_SX1 hc [.ref x, .int 0] cw_L_183 dL_refused_410 k23 hM hS hl.1 rfl rfl ⟨Nat.le_of_ble_eq_true rfl, Nat.le_of_ble_eq_true rfl⟩ ⟨Nat.le_of_ble_eq_true rfl, Nat.le_of_ble_eq_true rfl⟩ (Nat.le_of_ble_eq_true rfl) (fun H locs hM hS => ?_)
  have rf23 : Rfd cs c23 := rf22.tr p23
  have hF23 : FI 6 3 2 5 t dh cu (c23 0) := by rw [rf23.1]; exact hF0
  refine lv_sipush (v := (-1001)) hx hb dL_refused_413 (by decide) ?_
  refine lv_icmp_ne (tgt := 445) hx hb dL_refused_416 (by decide) (fun c_416 => absurd c_416 (by decide)) (fun c_416 => ?_)
  refine lv_aload_n hx hb dL_refused_419 rfl (lv_at hl 5 rfl) ?_
  refine lv_bipush (v := 49) hx hb dL_refused_420 (by decide) ?_
  have k24 := h_hours l hlf g (putC g M x c23) x c23 49 ClsAt.put (hR0.keep rf23.2.1).ok
  obtain ⟨q24, p24, x24, y24, z24, -⟩ := op_refE (c := c23) (rf_ph_c hF23) rf23.2.2
  obtain ⟨c24, ec24⟩ : ∃ cX, s_hours c23 49 = cX := ⟨_, rfl⟩
  rw [ec24, putC_putC, show v_hours c23 49 = -1001 from q24] at k24
  rw [show sO c23 (phO (c23 0) 49) = c24 from ec24] at p24 x24 y24 z24
  clear ec24 q24
  refine k_SX1 hc [.ref x, .int 49] cw_L_183 dL_refused_422 k24 hM hS hl.1 rfl rfl ⟨Nat.le_of_ble_eq_true rfl, Nat.le_of_ble_eq_true rfl⟩ ⟨Nat.le_of_ble_eq_true rfl, Nat.le_of_ble_eq_true rfl⟩ (Nat.le_of_ble_eq_true rfl) (fun H locs hM hS => ?_)
  have rf24 : Rfd cs c24 := rf23.tr p24
  have hF24 : FI 6 3 2 5 t dh cu (c24 0) := by rw [rf24.1]; exact hF0
  refine lv_sipush (v := (-1001)) hx hb dL_refused_425 (by decide) ?_
  refine lv_icmp_ne (tgt := 445) hx hb dL_refused_428 (by decide) (fun c_428 => absurd c_428 (by decide)) (fun c_428 => ?_)
  refine lv_aload_n hx hb dL_refused_431 rfl (lv_at hl 5 rfl) ?_
  refine lv_iconst (v := 1) hx hb dL_refused_432 (by decide) ?_
  refine lv_iconst (v := 0) hx hb dL_refused_433 (by decide) ?_
  refine lv_iconst (v := 0) hx hb dL_refused_434 (by decide) ?_
  have k_is := c_L_is l hlf g (putC g M x c24) x c24 1 0 0 ClsAt.put
  rw [show v_is c24 1 0 0 = 1 from is_1 (by decide) x24 y24 z24] at k_is
  refine k_S1 hc [.ref x, .int 1, .int 0, .int 0] cw_L_282 dL_refused_435 k_is hM hS hl.1 rfl rfl ⟨Nat.le_of_ble_eq_true rfl, Nat.le_of_ble_eq_true rfl⟩ ⟨Nat.le_of_ble_eq_true rfl, Nat.le_of_ble_eq_true rfl⟩ (Nat.le_of_ble_eq_true rfl) (fun H locs hM hS => ?_)
  refine lv_if_eq (tgt := 445) hx hb dL_refused_438 (by decide) (fun c_438 => absurd c_438 (by decide)) (fun c_438 => ?_)
  refine lv_iconst (v := 1) hx hb dL_refused_441 (by decide) ?_
  refine lv_goto (tgt := 446) hx hb dL_refused_442 (by decide) ?_
  refine lv_istore (lv' := [(7, .int 1), (6, .int 5), (5, .int 2), (4, .int 3), (3, .int 6), (1, .long (askV cs 6 3 2 5)), (0, .ref x)]) hx hb dL_refused_446 hl (by decide) rfl (fun ls hl => ?_)
  refine lv_iload hx hb dL_refused_448 (lv_at hl 0 rfl) ?_
  refine lv_if_eq (tgt := 788) hx hb dL_refused_450 (by decide) (fun c_450 => absurd c_450 (by decide)) (fun c_450 => ?_)
  refine lv_aload_n hx hb dL_refused_453 rfl (lv_at hl 6 rfl) ?_
  refine lv_iload_n hx hb dL_refused_454 rfl (lv_at hl 4 rfl) ?_
  have k6 := h_stakeAt l hlf g (putC g M x c24) x c24 6 ClsAt.put
  rw [show v_stakeAt c24 6 = (-1001) from by unfold v_stakeAt; rw [if_neg (no_S hF24).1]] at k6
  refine k_SX1 hc [.ref x, .int 6] cw_L_207 dL_refused_455 k6 hM hS hl.1 rfl rfl ⟨Nat.le_of_ble_eq_true rfl, Nat.le_of_ble_eq_true rfl⟩ ⟨Nat.le_of_ble_eq_true rfl, Nat.le_of_ble_eq_true rfl⟩ (Nat.le_of_ble_eq_true rfl) (fun H locs hM hS => ?_)
  refine lv_sipush (v := (-1001)) hx hb dL_refused_458 (by decide) ?_
  refine lv_icmp_ne (tgt := 788) hx hb dL_refused_461 (by decide) (fun c_461 => absurd c_461 (by decide)) (fun c_461 => ?_)
  refine lv_aload_n hx hb dL_refused_464 rfl (lv_at hl 6 rfl) ?_
  refine lv_iconst (v := (-1)) hx hb dL_refused_465 (by decide) ?_
  have k7 := h_stakeAt l hlf g (putC g M x c24) x c24 (-1) ClsAt.put
  rw [show v_stakeAt c24 (-1) = (-1001) from by unfold v_stakeAt; rw [if_neg (no_S hF24).2.1]] at k7
  refine k_SX1 hc [.ref x, .int (-1)] cw_L_207 dL_refused_466 k7 hM hS hl.1 rfl rfl ⟨Nat.le_of_ble_eq_true rfl, Nat.le_of_ble_eq_true rfl⟩ ⟨Nat.le_of_ble_eq_true rfl, Nat.le_of_ble_eq_true rfl⟩ (Nat.le_of_ble_eq_true rfl) (fun H locs hM hS => ?_)
  refine lv_sipush (v := (-1001)) hx hb dL_refused_469 (by decide) ?_
  refine lv_icmp_ne (tgt := 788) hx hb dL_refused_472 (by decide) (fun c_472 => absurd c_472 (by decide)) (fun c_472 => ?_)
  refine lv_aload_n hx hb dL_refused_475 rfl (lv_at hl 6 rfl) ?_
  refine lv_iload hx hb dL_refused_476 (lv_at hl 3 rfl) ?_
  refine lv_iconst (v := 1) hx hb dL_refused_478 (by decide) ?_
  have k8 := h_postOf l hlf g (putC g M x c24) x c24 3 1 ClsAt.put
  rw [show v_postOf c24 3 1 = (-1001) from by unfold v_postOf; rw [if_neg (no_P hF24).1]] at k8
  refine k_SX1 hc [.ref x, .int 3, .int 1] cw_L_221 dL_refused_479 k8 hM hS hl.1 rfl rfl ⟨Nat.le_of_ble_eq_true rfl, Nat.le_of_ble_eq_true rfl⟩ ⟨Nat.le_of_ble_eq_true rfl, Nat.le_of_ble_eq_true rfl⟩ (Nat.le_of_ble_eq_true rfl) (fun H locs hM hS => ?_)
  refine lv_sipush (v := (-1001)) hx hb dL_refused_482 (by decide) ?_
  refine lv_icmp_ne (tgt := 788) hx hb dL_refused_485 (by decide) (fun c_485 => absurd c_485 (by decide)) (fun c_485 => ?_)
  refine lv_aload_n hx hb dL_refused_488 rfl (lv_at hl 6 rfl) ?_
  refine lv_iload hx hb dL_refused_489 (lv_at hl 1 rfl) ?_
  refine lv_bipush (v := 9) hx hb dL_refused_491 (by decide) ?_
  have k9 := h_camelOf l hlf g (putC g M x c24) x c24 5 9 ClsAt.put
  rw [show v_camelOf c24 5 9 = (-1001) from by unfold v_camelOf; rw [if_neg (no_C hF24).1]] at k9
  refine k_SX1 hc [.ref x, .int 5, .int 9] cw_L_224 dL_refused_493 k9 hM hS hl.1 rfl rfl ⟨Nat.le_of_ble_eq_true rfl, Nat.le_of_ble_eq_true rfl⟩ ⟨Nat.le_of_ble_eq_true rfl, Nat.le_of_ble_eq_true rfl⟩ (Nat.le_of_ble_eq_true rfl) (fun H locs hM hS => ?_)
  refine lv_sipush (v := (-1001)) hx hb dL_refused_496 (by decide) ?_
  refine lv_icmp_ne (tgt := 788) hx hb dL_refused_499 (by decide) (fun c_499 => absurd c_499 (by decide)) (fun c_499 => ?_)
  refine lv_aload_n hx hb dL_refused_502 rfl (lv_at hl 6 rfl) ?_
  refine lv_iconst (v := 0) hx hb dL_refused_503 (by decide) ?_
  refine lv_iconst (v := 5) hx hb dL_refused_504 (by decide) ?_
  have k10 := h_camelOf l hlf g (putC g M x c24) x c24 0 5 ClsAt.put
  rw [show v_camelOf c24 0 5 = (-1002) from by unfold v_camelOf; rw [if_pos (no_C hF24).2.2, if_neg (by decide)]] at k10
  refine k_SX1 hc [.ref x, .int 0, .int 5] cw_L_224 dL_refused_505 k10 hM hS hl.1 rfl rfl ⟨Nat.le_of_ble_eq_true rfl, Nat.le_of_ble_eq_true rfl⟩ ⟨Nat.le_of_ble_eq_true rfl, Nat.le_of_ble_eq_true rfl⟩ (Nat.le_of_ble_eq_true rfl) (fun H locs hM hS => ?_)
  refine lv_sipush (v := (-1002)) hx hb dL_refused_508 (by decide) ?_
  refine lv_icmp_ne (tgt := 788) hx hb dL_refused_511 (by decide) (fun c_511 => absurd c_511 (by decide)) (fun c_511 => ?_)
  refine lv_aload_n hx hb dL_refused_514 rfl (lv_at hl 6 rfl) ?_
  refine lv_iconst (v := 0) hx hb dL_refused_515 (by decide) ?_
  refine lv_iconst (v := (-1)) hx hb dL_refused_516 (by decide) ?_
  have k11 := h_camelOf l hlf g (putC g M x c24) x c24 0 (-1) ClsAt.put
  rw [show v_camelOf c24 0 (-1) = (-1002) from by unfold v_camelOf; rw [if_pos (no_C hF24).2.2, if_neg (by decide)]] at k11
  refine k_SX1 hc [.ref x, .int 0, .int (-1)] cw_L_224 dL_refused_517 k11 hM hS hl.1 rfl rfl ⟨Nat.le_of_ble_eq_true rfl, Nat.le_of_ble_eq_true rfl⟩ ⟨Nat.le_of_ble_eq_true rfl, Nat.le_of_ble_eq_true rfl⟩ (Nat.le_of_ble_eq_true rfl) (fun H locs hM hS => ?_)
  refine lv_sipush (v := (-1002)) hx hb dL_refused_520 (by decide) ?_
  refine lv_icmp_ne (tgt := 788) hx hb dL_refused_523 (by decide) (fun c_523 => absurd c_523 (by decide)) (fun c_523 => ?_)
  refine lv_aload_n hx hb dL_refused_526 rfl (lv_at hl 6 rfl) ?_
  refine lv_iload_n hx hb dL_refused_527 rfl (lv_at hl 4 rfl) ?_
  refine lv_iconst (v := 0) hx hb dL_refused_528 (by decide) ?_
  have k12 := h_drawnAt l hlf g (putC g M x c24) x c24 6 0 ClsAt.put
  rw [show v_drawnAt c24 6 0 = (-1001) from by unfold v_drawnAt; rw [if_neg (no_S hF24).1]] at k12
  refine k_SX1 hc [.ref x, .int 6, .int 0] cw_L_211 dL_refused_529 k12 hM hS hl.1 rfl rfl ⟨Nat.le_of_ble_eq_true rfl, Nat.le_of_ble_eq_true rfl⟩ ⟨Nat.le_of_ble_eq_true rfl, Nat.le_of_ble_eq_true rfl⟩ (Nat.le_of_ble_eq_true rfl) (fun H locs hM hS => ?_)
  refine lv_sipush (v := (-1001)) hx hb dL_refused_532 (by decide) ?_
  refine lv_icmp_ne (tgt := 788) hx hb dL_refused_535 (by decide) (fun c_535 => absurd c_535 (by decide)) (fun c_535 => ?_)
  refine lv_aload_n hx hb dL_refused_538 rfl (lv_at hl 6 rfl) ?_
  refine lv_iconst (v := 0) hx hb dL_refused_539 (by decide) ?_
  refine lv_iload hx hb dL_refused_540 (lv_at hl 2 rfl) ?_
  have k13 := h_drawnAt l hlf g (putC g M x c24) x c24 0 2 ClsAt.put
  rw [show v_drawnAt c24 0 2 = (-1001) from by unfold v_drawnAt; rw [if_pos (no_S hF24).2.2.1, if_neg (no_H hF24).1]] at k13
  refine k_SX1 hc [.ref x, .int 0, .int 2] cw_L_211 dL_refused_542 k13 hM hS hl.1 rfl rfl ⟨Nat.le_of_ble_eq_true rfl, Nat.le_of_ble_eq_true rfl⟩ ⟨Nat.le_of_ble_eq_true rfl, Nat.le_of_ble_eq_true rfl⟩ (Nat.le_of_ble_eq_true rfl) (fun H locs hM hS => ?_)
  refine lv_sipush (v := (-1001)) hx hb dL_refused_545 (by decide) ?_
  refine lv_icmp_ne (tgt := 788) hx hb dL_refused_548 (by decide) (fun c_548 => absurd c_548 (by decide)) (fun c_548 => ?_)
  refine lv_aload_n hx hb dL_refused_551 rfl (lv_at hl 6 rfl) ?_
  refine lv_iload hx hb dL_refused_552 (lv_at hl 2 rfl) ?_
  have k14 := h_wrongBy l hlf g (putC g M x c24) x c24 2 ClsAt.put
  rw [show v_wrongBy c24 2 = (-1001) from by unfold v_wrongBy; rw [if_neg (no_H hF24).1]] at k14
  refine k_SX1 hc [.ref x, .int 2] cw_L_228 dL_refused_554 k14 hM hS hl.1 rfl rfl ⟨Nat.le_of_ble_eq_true rfl, Nat.le_of_ble_eq_true rfl⟩ ⟨Nat.le_of_ble_eq_true rfl, Nat.le_of_ble_eq_true rfl⟩ (Nat.le_of_ble_eq_true rfl) (fun H locs hM hS => ?_)
  refine lv_sipush (v := (-1001)) hx hb dL_refused_557 (by decide) ?_
  refine lv_icmp_ne (tgt := 788) hx hb dL_refused_560 (by decide) (fun c_560 => absurd c_560 (by decide)) (fun c_560 => ?_)
  refine lv_aload_n hx hb dL_refused_563 rfl (lv_at hl 6 rfl) ?_
  refine lv_iload_n hx hb dL_refused_564 rfl (lv_at hl 4 rfl) ?_
  refine lv_iconst (v := 0) hx hb dL_refused_565 (by decide) ?_
  have k15 := h_seems l hlf g (putC g M x c24) x c24 6 0 ClsAt.put
  rw [show v_seems c24 6 0 = (-1001) from by unfold v_seems; rw [if_neg (no_S hF24).1]] at k15
  refine k_SX1 hc [.ref x, .int 6, .int 0] cw_L_213 dL_refused_566 k15 hM hS hl.1 rfl rfl ⟨Nat.le_of_ble_eq_true rfl, Nat.le_of_ble_eq_true rfl⟩ ⟨Nat.le_of_ble_eq_true rfl, Nat.le_of_ble_eq_true rfl⟩ (Nat.le_of_ble_eq_true rfl) (fun H locs hM hS => ?_)
  refine lv_sipush (v := (-1001)) hx hb dL_refused_569 (by decide) ?_
  refine lv_icmp_ne (tgt := 788) hx hb dL_refused_572 (by decide) (fun c_572 => absurd c_572 (by decide)) (fun c_572 => ?_)
  refine lv_aload_n hx hb dL_refused_575 rfl (lv_at hl 6 rfl) ?_
  refine lv_iconst (v := 0) hx hb dL_refused_576 (by decide) ?_
  refine lv_iload hx hb dL_refused_577 (lv_at hl 3 rfl) ?_
  have k16 := h_seems l hlf g (putC g M x c24) x c24 0 3 ClsAt.put
  rw [show v_seems c24 0 3 = (-1001) from by unfold v_seems; rw [if_pos (no_S hF24).2.2.1, if_neg (no_P hF24).1]] at k16
  refine k_SX1 hc [.ref x, .int 0, .int 3] cw_L_213 dL_refused_579 k16 hM hS hl.1 rfl rfl ⟨Nat.le_of_ble_eq_true rfl, Nat.le_of_ble_eq_true rfl⟩ ⟨Nat.le_of_ble_eq_true rfl, Nat.le_of_ble_eq_true rfl⟩ (Nat.le_of_ble_eq_true rfl) (fun H locs hM hS => ?_)
  refine lv_sipush (v := (-1001)) hx hb dL_refused_582 (by decide) ?_
  refine lv_icmp_ne (tgt := 788) hx hb dL_refused_585 (by decide) (fun c_585 => absurd c_585 (by decide)) (fun c_585 => ?_)
  refine lv_aload_n hx hb dL_refused_588 rfl (lv_at hl 6 rfl) ?_
  refine lv_iconst (v := (-1)) hx hb dL_refused_589 (by decide) ?_
  refine lv_iconst (v := 0) hx hb dL_refused_590 (by decide) ?_
  have k17 := h_seemsAgain l hlf g (putC g M x c24) x c24 (-1) 0 ClsAt.put
  rw [show v_seemsAgain c24 (-1) 0 = (-1001) from by unfold v_seemsAgain; rw [if_neg (no_S hF24).2.1]] at k17
  refine k_SX1 hc [.ref x, .int (-1), .int 0] cw_L_215 dL_refused_591 k17 hM hS hl.1 rfl rfl ⟨Nat.le_of_ble_eq_true rfl, Nat.le_of_ble_eq_true rfl⟩ ⟨Nat.le_of_ble_eq_true rfl, Nat.le_of_ble_eq_true rfl⟩ (Nat.le_of_ble_eq_true rfl) (fun H locs hM hS => ?_)
  refine lv_sipush (v := (-1001)) hx hb dL_refused_594 (by decide) ?_
  refine lv_icmp_ne (tgt := 788) hx hb dL_refused_597 (by decide) (fun c_597 => absurd c_597 (by decide)) (fun c_597 => ?_)
  refine lv_aload_n hx hb dL_refused_600 rfl (lv_at hl 6 rfl) ?_
  refine lv_iconst (v := 0) hx hb dL_refused_601 (by decide) ?_
  refine lv_iconst (v := (-1)) hx hb dL_refused_602 (by decide) ?_
  have k18 := h_shimmers l hlf g (putC g M x c24) x c24 0 (-1) ClsAt.put
  rw [show v_shimmers c24 0 (-1) = (-1001) from by unfold v_shimmers; rw [if_pos (no_S hF24).2.2.1, if_neg (no_P hF24).2.1]] at k18
  refine k_SX1 hc [.ref x, .int 0, .int (-1)] cw_L_217 dL_refused_603 k18 hM hS hl.1 rfl rfl ⟨Nat.le_of_ble_eq_true rfl, Nat.le_of_ble_eq_true rfl⟩ ⟨Nat.le_of_ble_eq_true rfl, Nat.le_of_ble_eq_true rfl⟩ (Nat.le_of_ble_eq_true rfl) (fun H locs hM hS => ?_)
  refine lv_sipush (v := (-1001)) hx hb dL_refused_606 (by decide) ?_
  refine lv_icmp_ne (tgt := 788) hx hb dL_refused_609 (by decide) (fun c_609 => absurd c_609 (by decide)) (fun c_609 => ?_)
  refine lv_aload_n hx hb dL_refused_612 rfl (lv_at hl 6 rfl) ?_
  refine lv_iload_n hx hb dL_refused_613 rfl (lv_at hl 4 rfl) ?_
  have k19 := h_bestPost l hlf g (putC g M x c24) x c24 6 ClsAt.put
  rw [show v_bestPost c24 6 = (-1001) from by unfold v_bestPost; rw [if_neg (no_S hF24).1]] at k19
  refine k_SX1 hc [.ref x, .int 6] cw_L_209 dL_refused_614 k19 hM hS hl.1 rfl rfl ⟨Nat.le_of_ble_eq_true rfl, Nat.le_of_ble_eq_true rfl⟩ ⟨Nat.le_of_ble_eq_true rfl, Nat.le_of_ble_eq_true rfl⟩ (Nat.le_of_ble_eq_true rfl) (fun H locs hM hS => ?_)
  refine lv_sipush (v := (-1001)) hx hb dL_refused_617 (by decide) ?_
  refine lv_icmp_ne (tgt := 788) hx hb dL_refused_620 (by decide) (fun c_620 => absurd c_620 (by decide)) (fun c_620 => ?_)
  refine lv_aload_n hx hb dL_refused_623 rfl (lv_at hl 6 rfl) ?_
  refine lv_iconst (v := 0) hx hb dL_refused_624 (by decide) ?_
  refine lv_iload hx hb dL_refused_625 (lv_at hl 3 rfl) ?_
  have k20 := h_clearIn l hlf g (putC g M x c24) x c24 0 3 ClsAt.put
  rw [show v_clearIn c24 0 3 = (-1001) from by unfold v_clearIn; rw [if_pos (no_S hF24).2.2.1, if_neg (no_P hF24).1]] at k20
  refine k_SX1 hc [.ref x, .int 0, .int 3] cw_L_219 dL_refused_627 k20 hM hS hl.1 rfl rfl ⟨Nat.le_of_ble_eq_true rfl, Nat.le_of_ble_eq_true rfl⟩ ⟨Nat.le_of_ble_eq_true rfl, Nat.le_of_ble_eq_true rfl⟩ (Nat.le_of_ble_eq_true rfl) (fun H locs hM hS => ?_)
  refine lv_sipush (v := (-1001)) hx hb dL_refused_630 (by decide) ?_
  refine lv_icmp_ne (tgt := 788) hx hb dL_refused_633 (by decide) (fun c_633 => absurd c_633 (by decide)) (fun c_633 => ?_)
  refine lv_aload_n hx hb dL_refused_636 rfl (lv_at hl 6 rfl) ?_
  refine lv_iconst (v := (-1)) hx hb dL_refused_637 (by decide) ?_
  have k21 := h_heatIn l hlf g (putC g M x c24) x c24 (-1) ClsAt.put
  rw [show v_heatIn c24 (-1) = (-1001) from by unfold v_heatIn; rw [if_neg (by decide)]] at k21
  refine k_SX1 hc [.ref x, .int (-1)] cw_L_230 dL_refused_638 k21 hM hS hl.1 rfl rfl ⟨Nat.le_of_ble_eq_true rfl, Nat.le_of_ble_eq_true rfl⟩ ⟨Nat.le_of_ble_eq_true rfl, Nat.le_of_ble_eq_true rfl⟩ (Nat.le_of_ble_eq_true rfl) (fun H locs hM hS => ?_)
  refine lv_sipush (v := (-1001)) hx hb dL_refused_641 (by decide) ?_
  refine lv_icmp_ne (tgt := 788) hx hb dL_refused_644 (by decide) (fun c_644 => absurd c_644 (by decide)) (fun c_644 => ?_)
  refine lv_aload_n hx hb dL_refused_647 rfl (lv_at hl 6 rfl) ?_
  refine lv_bipush (v := 48) hx hb dL_refused_648 (by decide) ?_
  have k22 := h_heatIn l hlf g (putC g M x c24) x c24 48 ClsAt.put
  rw [show v_heatIn c24 48 = (-1001) from by unfold v_heatIn; rw [if_neg (by decide)]] at k22
  refine k_SX1 hc [.ref x, .int 48] cw_L_230 dL_refused_650 k22 hM hS hl.1 rfl rfl ⟨Nat.le_of_ble_eq_true rfl, Nat.le_of_ble_eq_true rfl⟩ ⟨Nat.le_of_ble_eq_true rfl, Nat.le_of_ble_eq_true rfl⟩ (Nat.le_of_ble_eq_true rfl) (fun H locs hM hS => ?_)
  refine lv_sipush (v := (-1001)) hx hb dL_refused_653 (by decide) ?_
  refine lv_icmp_ne (tgt := 788) hx hb dL_refused_656 (by decide) (fun c_656 => absurd c_656 (by decide)) (fun c_656 => ?_)
  refine lv_aload_n hx hb dL_refused_659 rfl (lv_at hl 6 rfl) ?_
  refine lv_iload hx hb dL_refused_660 (lv_at hl 1 rfl) ?_
  have k23 := h_lostIn l hlf g (putC g M x c24) x c24 5 ClsAt.put
  rw [show v_lostIn c24 5 = (-1001) from by unfold v_lostIn; rw [if_neg (no_C hF24).1]] at k23
  refine k_SX1 hc [.ref x, .int 5] cw_L_226 dL_refused_662 k23 hM hS hl.1 rfl rfl ⟨Nat.le_of_ble_eq_true rfl, Nat.le_of_ble_eq_true rfl⟩ ⟨Nat.le_of_ble_eq_true rfl, Nat.le_of_ble_eq_true rfl⟩ (Nat.le_of_ble_eq_true rfl) (fun H locs hM hS => ?_)
  refine lv_sipush (v := (-1001)) hx hb dL_refused_665 (by decide) ?_
  refine lv_icmp_ne (tgt := 788) hx hb dL_refused_668 (by decide) (fun c_668 => absurd c_668 (by decide)) (fun c_668 => ?_)
  refine lv_aload_n hx hb dL_refused_671 rfl (lv_at hl 6 rfl) ?_
  refine lv_iconst (v := (-1)) hx hb dL_refused_672 (by decide) ?_
  have k24 := h_nearest l hlf g (putC g M x c24) x c24 (-1) ClsAt.put
  rw [show v_nearest c24 (-1) = (-1001) from by unfold v_nearest; rw [if_neg (by decide)]] at k24
  refine k_SX1 hc [.ref x, .int (-1)] cw_L_232 dL_refused_673 k24 hM hS hl.1 rfl rfl ⟨Nat.le_of_ble_eq_true rfl, Nat.le_of_ble_eq_true rfl⟩ ⟨Nat.le_of_ble_eq_true rfl, Nat.le_of_ble_eq_true rfl⟩ (Nat.le_of_ble_eq_true rfl) (fun H locs hM hS => ?_)
  refine lv_sipush (v := (-1001)) hx hb dL_refused_676 (by decide) ?_
  refine lv_icmp_ne (tgt := 788) hx hb dL_refused_679 (by decide) (fun c_679 => absurd c_679 (by decide)) (fun c_679 => ?_)
  refine lv_aload_n hx hb dL_refused_682 rfl (lv_at hl 6 rfl) ?_
  refine lv_bipush (v := 100) hx hb dL_refused_683 (by decide) ?_
  have k25 := h_nearest l hlf g (putC g M x c24) x c24 100 ClsAt.put
  rw [show v_nearest c24 100 = (-1001) from by unfold v_nearest; rw [if_neg (by decide)]] at k25
  refine k_SX1 hc [.ref x, .int 100] cw_L_232 dL_refused_685 k25 hM hS hl.1 rfl rfl ⟨Nat.le_of_ble_eq_true rfl, Nat.le_of_ble_eq_true rfl⟩ ⟨Nat.le_of_ble_eq_true rfl, Nat.le_of_ble_eq_true rfl⟩ (Nat.le_of_ble_eq_true rfl) (fun H locs hM hS => ?_)
  refine lv_sipush (v := (-1001)) hx hb dL_refused_688 (by decide) ?_
  refine lv_icmp_ne (tgt := 788) hx hb dL_refused_691 (by decide) (fun c_691 => absurd c_691 (by decide)) (fun c_691 => ?_)
  refine lv_aload_n hx hb dL_refused_694 rfl (lv_at hl 6 rfl) ?_
  refine lv_iload hx hb dL_refused_695 (lv_at hl 2 rfl) ?_
  have k_ln := h_line l hlf g (putC g M x c24) x c24 2 ClsAt.put
  rw [show v_line c24 2 = -1001 from by unfold v_line; rw [if_neg (no_H hF24).1], show s_line c24 2 = c24 from by unfold s_line; rw [if_neg (no_H hF24).1], putC_putC] at k_ln
  refine k_SX1 hc [.ref x, .int 2] cw_L_161 dL_refused_697 k_ln hM hS hl.1 rfl rfl ⟨Nat.le_of_ble_eq_true rfl, Nat.le_of_ble_eq_true rfl⟩ ⟨Nat.le_of_ble_eq_true rfl, Nat.le_of_ble_eq_true rfl⟩ (Nat.le_of_ble_eq_true rfl) (fun H locs hM hS => ?_)
  refine lv_sipush (v := (-1001)) hx hb dL_refused_700 (by decide) ?_
  refine lv_icmp_ne (tgt := 788) hx hb dL_refused_703 (by decide) (fun c_703 => absurd c_703 (by decide)) (fun c_703 => ?_)
  refine lv_aload_n hx hb dL_refused_706 rfl (lv_at hl 6 rfl) ?_
  refine lv_iconst (v := (-1)) hx hb dL_refused_707 (by decide) ?_
  have k_ch := h_character l hlf g (putC g M x c24) x c24 (-1) ClsAt.put rf24.2.2.1.2.1 rf24.2.2.1.2.2.2
  rw [show v_character c24 (-1) = -1001 from by unfold v_character; rw [if_neg (by rintro ⟨q, -⟩; exact q (by decide))]] at k_ch
  refine k_SX1 hc [.ref x, .int (-1)] cw_L_163 dL_refused_708 k_ch hM hS hl.1 rfl rfl ⟨Nat.le_of_ble_eq_true rfl, Nat.le_of_ble_eq_true rfl⟩ ⟨Nat.le_of_ble_eq_true rfl, Nat.le_of_ble_eq_true rfl⟩ (Nat.le_of_ble_eq_true rfl) (fun H locs hM hS => ?_)
  refine lv_sipush (v := (-1001)) hx hb dL_refused_711 (by decide) ?_
  refine lv_icmp_ne (tgt := 788) hx hb dL_refused_714 (by decide) (fun c_714 => absurd c_714 (by decide)) (fun c_714 => ?_)
  refine lv_aload_n hx hb dL_refused_717 rfl (lv_at hl 6 rfl) ?_
  refine lv_bipush (v := 100) hx hb dL_refused_718 (by decide) ?_
  have k_ch := h_character l hlf g (putC g M x c24) x c24 100 ClsAt.put rf24.2.2.1.2.1 rf24.2.2.1.2.2.2
  rw [show v_character c24 100 = -1001 from by unfold v_character; rw [if_neg (by rintro ⟨-, q⟩; exact absurd (Int32.lt_of_lt_of_le q rf24.2.2.1.2.2.2) (by decide))]] at k_ch
  refine k_SX1 hc [.ref x, .int 100] cw_L_163 dL_refused_720 k_ch hM hS hl.1 rfl rfl ⟨Nat.le_of_ble_eq_true rfl, Nat.le_of_ble_eq_true rfl⟩ ⟨Nat.le_of_ble_eq_true rfl, Nat.le_of_ble_eq_true rfl⟩ (Nat.le_of_ble_eq_true rfl) (fun H locs hM hS => ?_)
  refine lv_sipush (v := (-1001)) hx hb dL_refused_723 (by decide) ?_
  refine lv_icmp_ne (tgt := 788) hx hb dL_refused_726 (by decide) (fun c_726 => absurd c_726 (by decide)) (fun c_726 => ?_)
  refine lv_aload_n hx hb dL_refused_729 rfl (lv_at hl 6 rfl) ?_
  refine lv_bipush (v := 17) hx hb dL_refused_730 (by decide) ?_
  have k26 := h_account l hlf g (putC g M x c24) x c24 17 ClsAt.put
  rw [show v_account c24 17 = (-1001) from by unfold v_account; rw [if_neg (by decide)]] at k26
  refine k_SX1 hc [.ref x, .int 17] cw_L_205 dL_refused_732 k26 hM hS hl.1 rfl rfl ⟨Nat.le_of_ble_eq_true rfl, Nat.le_of_ble_eq_true rfl⟩ ⟨Nat.le_of_ble_eq_true rfl, Nat.le_of_ble_eq_true rfl⟩ (Nat.le_of_ble_eq_true rfl) (fun H locs hM hS => ?_)
  refine lv_sipush (v := (-1001)) hx hb dL_refused_735 (by decide) ?_
  refine lv_icmp_ne (tgt := 788) hx hb dL_refused_738 (by decide) (fun c_738 => absurd c_738 (by decide)) (fun c_738 => ?_)
  refine lv_aload_n hx hb dL_refused_741 rfl (lv_at hl 6 rfl) ?_
  refine lv_iconst (v := (-1)) hx hb dL_refused_742 (by decide) ?_
  have k27 := h_account l hlf g (putC g M x c24) x c24 (-1) ClsAt.put
  rw [show v_account c24 (-1) = (-1001) from by unfold v_account; rw [if_neg (by decide)]] at k27
  refine k_SX1 hc [.ref x, .int (-1)] cw_L_205 dL_refused_743 k27 hM hS hl.1 rfl rfl ⟨Nat.le_of_ble_eq_true rfl, Nat.le_of_ble_eq_true rfl⟩ ⟨Nat.le_of_ble_eq_true rfl, Nat.le_of_ble_eq_true rfl⟩ (Nat.le_of_ble_eq_true rfl) (fun H locs hM hS => ?_)
  refine lv_sipush (v := (-1001)) hx hb dL_refused_746 (by decide) ?_
  refine lv_icmp_ne (tgt := 788) hx hb dL_refused_749 (by decide) (fun c_749 => absurd c_749 (by decide)) (fun c_749 => ?_)
  refine lv_aload_n hx hb dL_refused_752 rfl (lv_at hl 6 rfl) ?_
  refine lv_iconst (v := 3) hx hb dL_refused_753 (by decide) ?_
  have k28 := h_reason l hlf g (putC g M x c24) x c24 3 ClsAt.put
  rw [show v_reason c24 3 = (-1001) from by unfold v_reason; rw [if_neg (by decide)]] at k28
  refine k_SX1 hc [.ref x, .int 3] cw_L_158 dL_refused_754 k28 hM hS hl.1 rfl rfl ⟨Nat.le_of_ble_eq_true rfl, Nat.le_of_ble_eq_true rfl⟩ ⟨Nat.le_of_ble_eq_true rfl, Nat.le_of_ble_eq_true rfl⟩ (Nat.le_of_ble_eq_true rfl) (fun H locs hM hS => ?_)
  refine lv_sipush (v := (-1001)) hx hb dL_refused_757 (by decide) ?_
  refine lv_icmp_ne (tgt := 788) hx hb dL_refused_760 (by decide) (fun c_760 => absurd c_760 (by decide)) (fun c_760 => ?_)
  refine lv_aload_n hx hb dL_refused_763 rfl (lv_at hl 6 rfl) ?_
  refine lv_iconst (v := (-1)) hx hb dL_refused_764 (by decide) ?_
  have k29 := h_reason l hlf g (putC g M x c24) x c24 (-1) ClsAt.put
  rw [show v_reason c24 (-1) = (-1001) from by unfold v_reason; rw [if_neg (by decide)]] at k29
  refine k_SX1 hc [.ref x, .int (-1)] cw_L_158 dL_refused_765 k29 hM hS hl.1 rfl rfl ⟨Nat.le_of_ble_eq_true rfl, Nat.le_of_ble_eq_true rfl⟩ ⟨Nat.le_of_ble_eq_true rfl, Nat.le_of_ble_eq_true rfl⟩ (Nat.le_of_ble_eq_true rfl) (fun H locs hM hS => ?_)
  refine lv_sipush (v := (-1001)) hx hb dL_refused_768 (by decide) ?_
  refine lv_icmp_ne (tgt := 788) hx hb dL_refused_771 (by decide) (fun c_771 => absurd c_771 (by decide)) (fun c_771 => ?_)
  refine lv_aload_n hx hb dL_refused_774 rfl (lv_at hl 6 rfl) ?_
  refine lv_iconst (v := 1) hx hb dL_refused_775 (by decide) ?_
  refine lv_iconst (v := 0) hx hb dL_refused_776 (by decide) ?_
  refine lv_iconst (v := 0) hx hb dL_refused_777 (by decide) ?_
  have k_is := c_L_is l hlf g (putC g M x c24) x c24 1 0 0 ClsAt.put
  rw [show v_is c24 1 0 0 = 1 from is_1 (by decide) x24 y24 z24] at k_is
  refine k_S1 hc [.ref x, .int 1, .int 0, .int 0] cw_L_282 dL_refused_778 k_is hM hS hl.1 rfl rfl ⟨Nat.le_of_ble_eq_true rfl, Nat.le_of_ble_eq_true rfl⟩ ⟨Nat.le_of_ble_eq_true rfl, Nat.le_of_ble_eq_true rfl⟩ (Nat.le_of_ble_eq_true rfl) (fun H locs hM hS => ?_)
  refine lv_if_eq (tgt := 788) hx hb dL_refused_781 (by decide) (fun c_781 => absurd c_781 (by decide)) (fun c_781 => ?_)
  refine lv_iconst (v := 1) hx hb dL_refused_784 (by decide) ?_
  refine lv_goto (tgt := 789) hx hb dL_refused_785 (by decide) ?_
  refine lv_istore (lv' := [(7, .int 1), (6, .int 5), (5, .int 2), (4, .int 3), (3, .int 6), (1, .long (askV cs 6 3 2 5)), (0, .ref x)]) hx hb dL_refused_789 hl (by decide) rfl (fun ls hl => ?_)
  refine lv_iload hx hb dL_refused_791 (lv_at hl 0 rfl) ?_
  refine lv_if_eq (tgt := 870) hx hb dL_refused_793 (by decide) (fun c_793 => absurd c_793 (by decide)) (fun c_793 => ?_)
  refine lv_aload_n hx hb dL_refused_796 rfl (lv_at hl 6 rfl) ?_
  refine k_ldcw hc (k_str hc 9 rfl) dL_refused_797 ?_
  refine k_S1v hc [.ref x, .ref (g.2.2.2.1 9)] cw_L_274 dL_refused_800 (c_L_readsJ l hlf g (putC g M x c24) x c24 ClsAt.put 9 [113] rfl (by decide) (fun k => sc_nar _) rf24.2.2.2 rf24.2.2.1.1 (hR0.keep rf24.2.1).ok) hM hS hl.1 rfl rfl ⟨Nat.le_of_ble_eq_true rfl, Nat.le_of_ble_eq_true rfl⟩ ⟨Nat.le_of_ble_eq_true rfl, Nat.le_of_ble_eq_true rfl⟩ (Nat.le_of_ble_eq_true rfl) (fun v9 M9 H locs hs hM hS => ?_)
  obtain ⟨hv9, hM9⟩ := hs
  subst hv9
  have rc25 := read_cases (b := txQ) (L := 1) (n := t) (nx := nx) (sz := sz) (c := c24) ⟨6, 3, 2, 5, t, dh, cu, Nat.le_refl _, hF24⟩ (by omega) rf24.2.2 (hR0.keep rf24.2.1) (by omega) (fun k _ => sc_nar _)
  obtain ⟨v25, w25, xx25⟩ := q_text rf24.2.2.2
  have x25 := (xx25 10 (Or.inl rfl)).trans x24
  have y25 := (xx25 11 (Or.inr (Or.inl rfl))).trans y24
  have z25 := (xx25 12 (Or.inr (Or.inr rfl))).trans z24
  clear xx25
  have p25 : Rfd c24 (s_commands (txS txQ c24 1)) := by
    rcases rc25 with ⟨w, fl, hw, hv, -⟩ | ⟨-, h⟩
    · rw [v25] at hv
      exact absurd (hv ▸ (by decide : ((-1001 : Int32)) < 0)) (nI_pos (by omega))
    · exact h
  have hM : hR g (putC g M x (s_commands (txS txQ c24 1))) H := by
    rw [hM9, putC_putC] at hM
    exact hM
  rw [show v_commands (txS (chI [113]) c24 (List.length ([113] : List Int32))) = -1001 from v25]
  clear rc25 hM9
  obtain ⟨c25, ec25⟩ : ∃ cX, s_commands (txS txQ c24 1) = cX := ⟨_, rfl⟩
  rw [ec25] at hM w25 x25 y25 z25 p25
  clear ec25
  have rf25 : Rfd cs c25 := rf24.tr p25
  have hF25 : FI 6 3 2 5 t dh cu (c25 0) := by rw [rf25.1]; exact hF0
  refine lv_sipush (v := (-1001)) hx hb dL_refused_803 (by decide) ?_
  refine lv_icmp_ne (tgt := 870) hx hb dL_refused_806 (by decide) (fun c_806 => absurd c_806 (by decide)) (fun c_806 => ?_)
  refine lv_aload_n hx hb dL_refused_809 rfl (lv_at hl 6 rfl) ?_
  refine k_V1 hc [] cw_L_288 (ci := 7) rfl dL_refused_810 (c_X5_faultPosition l hlf g (putC g M x c25) x c25 ClsAt.put) (ClsAt.put (g := g) (M := M) (x := x) (cs := c25)).o hM hS hl.1 rfl rfl ⟨Nat.le_of_ble_eq_true rfl, Nat.le_of_ble_eq_true rfl⟩ ⟨Nat.le_of_ble_eq_true rfl, Nat.le_of_ble_eq_true rfl⟩ (Nat.le_of_ble_eq_true rfl) (fun H locs hM hS => ?_)
  rw [w25]
  refine lv_if_ne (tgt := 870) hx hb dL_refused_813 (by decide) (fun c_813 => absurd c_813 (by decide)) (fun c_813 => ?_)
  refine lv_aload_n hx hb dL_refused_816 rfl (lv_at hl 6 rfl) ?_
  refine lv_iconst (v := 1) hx hb dL_refused_817 (by decide) ?_
  refine lv_iconst (v := 0) hx hb dL_refused_818 (by decide) ?_
  refine lv_iconst (v := 0) hx hb dL_refused_819 (by decide) ?_
  have k_is := c_L_is l hlf g (putC g M x c25) x c25 1 0 0 ClsAt.put
  rw [show v_is c25 1 0 0 = 1 from is_1 (by decide) x25 y25 z25] at k_is
  refine k_S1 hc [.ref x, .int 1, .int 0, .int 0] cw_L_282 dL_refused_820 k_is hM hS hl.1 rfl rfl ⟨Nat.le_of_ble_eq_true rfl, Nat.le_of_ble_eq_true rfl⟩ ⟨Nat.le_of_ble_eq_true rfl, Nat.le_of_ble_eq_true rfl⟩ (Nat.le_of_ble_eq_true rfl) (fun H locs hM hS => ?_)
  refine lv_if_eq (tgt := 870) hx hb dL_refused_823 (by decide) (fun c_823 => absurd c_823 (by decide)) (fun c_823 => ?_)
  refine lv_aload_n hx hb dL_refused_826 rfl (lv_at hl 6 rfl) ?_
  refine k_ldcw hc (k_str hc 32 rfl) dL_refused_827 ?_
  refine k_S1v hc [.ref x, .ref (g.2.2.2.1 32)] cw_L_274 dL_refused_830 (c_L_readsJ l hlf g (putC g M x c25) x c25 ClsAt.put 32 [119, 49, 59, 119, 49, 59, 119, 48] rfl (by decide) (fun k => sc_nar _) rf25.2.2.2 rf25.2.2.1.1 (hR0.keep rf25.2.1).ok) hM hS hl.1 rfl rfl ⟨Nat.le_of_ble_eq_true rfl, Nat.le_of_ble_eq_true rfl⟩ ⟨Nat.le_of_ble_eq_true rfl, Nat.le_of_ble_eq_true rfl⟩ (Nat.le_of_ble_eq_true rfl) (fun v9 M9 H locs hs hM hS => ?_)
  obtain ⟨hv9, hM9⟩ := hs
  subst hv9
  have rc26 := read_cases (b := txW) (L := 8) (n := t) (nx := nx) (sz := sz) (c := c25) ⟨6, 3, 2, 5, t, dh, cu, Nat.le_refl _, hF25⟩ (by omega) rf25.2.2 (hR0.keep rf25.2.1) (by omega) (fun k _ => sc_nar _)
  obtain ⟨v26, w26, x26, y26, z26⟩ := w_text rf25.2.2.2 hF25 (by omega)
  have p26 : Rfd c25 (s_commands (txS txW c25 8)) := by
    rcases rc26 with ⟨w, fl, hw, hv, -⟩ | ⟨-, h⟩
    · rw [v26] at hv
      exact absurd (hv ▸ (by decide : ((-1002 : Int32)) < 0)) (nI_pos (by omega))
    · exact h
  have hM : hR g (putC g M x (s_commands (txS txW c25 8))) H := by
    rw [hM9, putC_putC] at hM
    exact hM
  rw [show v_commands (txS (chI [119, 49, 59, 119, 49, 59, 119, 48]) c25 (List.length ([119, 49, 59, 119, 49, 59, 119, 48] : List Int32))) = -1002 from v26]
  clear rc26 hM9
  obtain ⟨c26, ec26⟩ : ∃ cX, s_commands (txS txW c25 8) = cX := ⟨_, rfl⟩
  rw [ec26] at hM w26 x26 y26 z26 p26
  clear ec26
  have rf26 : Rfd cs c26 := rf25.tr p26
  have hF26 : FI 6 3 2 5 t dh cu (c26 0) := by rw [rf26.1]; exact hF0
  refine lv_sipush (v := (-1002)) hx hb dL_refused_833 (by decide) ?_
  refine lv_icmp_ne (tgt := 870) hx hb dL_refused_836 (by decide) (fun c_836 => absurd c_836 (by decide)) (fun c_836 => ?_)
  refine lv_aload_n hx hb dL_refused_839 rfl (lv_at hl 6 rfl) ?_
  refine k_V1 hc [] cw_L_288 (ci := 7) rfl dL_refused_840 (c_X5_faultPosition l hlf g (putC g M x c26) x c26 ClsAt.put) (ClsAt.put (g := g) (M := M) (x := x) (cs := c26)).o hM hS hl.1 rfl rfl ⟨Nat.le_of_ble_eq_true rfl, Nat.le_of_ble_eq_true rfl⟩ ⟨Nat.le_of_ble_eq_true rfl, Nat.le_of_ble_eq_true rfl⟩ (Nat.le_of_ble_eq_true rfl) (fun H locs hM hS => ?_)
  rw [w26]
  refine lv_iconst (v := (-1)) hx hb dL_refused_843 (by decide) ?_
  refine lv_icmp_ne (tgt := 870) hx hb dL_refused_844 (by decide) (fun c_844 => absurd c_844 (by decide)) (fun c_844 => ?_)
  refine lv_aload_n hx hb dL_refused_847 rfl (lv_at hl 6 rfl) ?_
  refine lv_iconst (v := 1) hx hb dL_refused_848 (by decide) ?_
  refine lv_iconst (v := 0) hx hb dL_refused_849 (by decide) ?_
  refine lv_iconst (v := 2) hx hb dL_refused_850 (by decide) ?_
  have k_is := c_L_is l hlf g (putC g M x c26) x c26 1 0 2 ClsAt.put
  rw [show v_is c26 1 0 2 = 1 from is_1 (by decide) x26 y26 z26] at k_is
  refine k_S1 hc [.ref x, .int 1, .int 0, .int 2] cw_L_282 dL_refused_851 k_is hM hS hl.1 rfl rfl ⟨Nat.le_of_ble_eq_true rfl, Nat.le_of_ble_eq_true rfl⟩ ⟨Nat.le_of_ble_eq_true rfl, Nat.le_of_ble_eq_true rfl⟩ (Nat.le_of_ble_eq_true rfl) (fun H locs hM hS => ?_)
  refine lv_if_eq (tgt := 870) hx hb dL_refused_854 (by decide) (fun c_854 => absurd c_854 (by decide)) (fun c_854 => ?_)
  refine lv_aload_n hx hb dL_refused_857 rfl (lv_at hl 6 rfl) ?_
  have k27 := c_L_asks l hlf g (putC g M x c26) x c26 ClsAt.put hF26 rf26.2.2.ln
  have lp27 := askS_P (ns := 6) (np := 3) (nh := 2) (nc := 5) rf26.2.2.ln
  obtain ⟨c27, ec27⟩ : ∃ cX, askS c26 6 3 2 5 = cX := ⟨_, rfl⟩
  rw [ec27, putC_putC] at k27
  rw [ec27] at lp27
  refine k_S1 hc [.ref x] cw_L_278 dL_refused_858 k27 hM hS hl.1 rfl rfl ⟨Nat.le_of_ble_eq_true rfl, Nat.le_of_ble_eq_true rfl⟩ ⟨Nat.le_of_ble_eq_true rfl, Nat.le_of_ble_eq_true rfl⟩ (Nat.le_of_ble_eq_true rfl) (fun H locs hM hS => ?_)
  have rf27 : Rfd cs c27 := rf26.tr (lp27.rfd rf26.2.2)
  have hF27 : FI 6 3 2 5 t dh cu (c27 0) := by rw [rf27.1]; exact hF0
  refine lv_lload_n hx hb dL_refused_861 rfl (lv_at hl 5 rfl) ?_
  refine lv_lcmp hx hb dL_refused_862 ?_
  have eq9 : (askV c26 6 3 2 5) = (askV cs 6 3 2 5) := (askV_z (by rw [rf26.1] : c26 0 = cs 0)).1
  rw [eq9, if_neg (Int64.lt_irrefl), if_pos rfl]
  refine lv_if_ne (tgt := 870) hx hb dL_refused_863 (by decide) (fun c_863 => absurd c_863 (by decide)) (fun c_863 => ?_)
  refine lv_iconst (v := 1) hx hb dL_refused_866 (by decide) ?_
  refine lv_goto (tgt := 871) hx hb dL_refused_867 (by decide) ?_
  exact k_zretv hc hr dL_refused_871 hM hS (by rfl) (Nat.le_of_ble_eq_true rfl) (Nat.le_of_ble_eq_true rfl) ⟨rfl, _, rfl, rf27⟩
