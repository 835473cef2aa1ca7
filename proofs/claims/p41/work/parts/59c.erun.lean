/-! the law's first half: a fixed run -/
def ES (nx sz : Nat) (F : FL) (c : CS) : Prop := c 0 = F ∧ Aux c ∧ Rg nx sz c ∧ c 2 = E0 ∧ c 11 3 7 = 1
theorem es_ok {nx sz w : Nat} {F F2 : FL} {c : CS} {r : OR} (h : ES nx sz F c) (e : r = .inl (nI w, F2)) (hw : w < 2 ^ 31) : vO r = nI w ∧ ES (nxt nx) (min 8 (sz + 1)) F2 (sO c r) ∧ sO c r (3 + nx) = F ∧ ∀ j, j < 8 → j ≠ nx → sO c r (3 + j) = c (3 + j) := by
  subst e
  obtain ⟨h0, hA, hR, h2, h7⟩ := h
  obtain ⟨e1, s1, s2, s3, s4, s5, s6, s7⟩ := op_suc (w := w) (fl := F2) hw hA hR
  exact ⟨e1, ⟨s1, s4, s7, s2.trans h2, s3.trans h7⟩, s5.trans h0, s6⟩
theorem es_rf {nx sz : Nat} {F : FL} {a b : CS} (h : ES nx sz F a) (k : Rfd a b) : ES nx sz F b := ⟨k.1.trans h.1, k.2.2, h.2.2.1.keep k.2.1, k.2.1.1.trans h.2.2.2.1, k.2.1.2.2.2.2.trans h.2.2.2.2⟩
theorem es_no {nx sz : Nat} {F : FL} {c : CS} {r : OR} {k d : Int32} (h : ES nx sz F c) (e : r = .inr (k, d)) : vO r = -1001 ∧ ES nx sz F (sO c r) ∧ sO c r 11 3 10 = k ∧ sO c r 11 3 11 = d ∧ sO c r 11 3 12 = 0 ∧ ∀ j, j < 8 → sO c r (3 + j) = c (3 + j) := by
  obtain ⟨q, p, x, y, z, -⟩ := op_refE e h.2.1
  exact ⟨q, es_rf h p, x, y, z, p.2.1.2.1⟩
theorem es_undo {nx sz : Nat} {F : FL} {c : CS} (h : ES nx sz F c) (hs : 0 < sz) : v_undo c = nI (sz - 1) ∧ ES (prv nx) (sz - 1) (c (3 + prv nx)) (s_undo c) ∧ ∀ j, j < 8 → s_undo c (3 + j) = c (3 + j) := by
  obtain ⟨h0, hA, hR, h2, h7⟩ := h
  obtain ⟨u1, u2, u3, u4, u5, u6⟩ := undo_ok hR hs
  exact ⟨u1, ⟨u2, hA.st (u5 1 (by omega)) (u5 2 (by omega)) (u6 4 (by omega) (by omega)) (u6 1 (by omega) (by omega)), u4, (u3 2 (by omega) (by omega)).trans h2, (u6 7 (by omega) (by omega)).trans h7⟩, fun j hj => u3 _ (by omega) (by omega)⟩
theorem es_rest {nx sz : Nat} {F : FL} {c : CS} (h : ES nx sz F c) : v_restore c = 0 ∧ ES nx 0 E0 (s_restore c) := by
  obtain ⟨h0, hA, hR, h2, h7⟩ := h
  obtain ⟨e1, e2⟩ := rest_ok h7
  rw [e1, e2, h2]
  refine ⟨rfl, ?_, hA.st ?_ ?_ ?_ ?_, ⟨hR.1, by omega, ?_, ?_⟩, ?_, ?_⟩
  · rw [upS_f (by omega), upC_at]
  · rw [upS_r (by omega), upC_ne (by omega)]
  · rw [upS_r (by omega), upC_ne (by omega)]
  · rw [upS_s (by omega), upC_ne (by omega)]
  · rw [upS_s (by omega), upC_ne (by omega)]
  · rw [upS_s (by omega), upC_ne (by omega)]; exact hR.2.2.1
  · unfold upS
    rw [upC_at, up2_at]
    rfl
  · rw [upS_f (by omega), upC_ne (by omega)]; exact h2
  · rw [upS_s (by omega), upC_ne (by omega)]; exact h7
theorem bad_text {b : Nat → Int32} {L : Nat} {c : CS} (h1 : c 11 3 1 = 0) (h0 : 0 < L) (hL : L ≤ 60) (hb : fmB (b 0) = []) : v_commands (txS b c L) = -1001 ∧ s_commands (txS b c L) 11 3 8 = 0 := by
  have hT := txS_T2 (b := b) h1 hL
  generalize hX : txS b c L = X at *
  obtain ⟨t0, e3, e0⟩ := hT.rc0
  have eB : rcB (upS X 2 0) = [] := by
    show fmB (rc0 (upS X 2 0) 11 3 3) = _
    rw [e3]
    unfold sgB
    rw [if_pos h0]
    exact hb
  have hP : ¬ rcP (upS X 2 0) := by
    intro h
    apply h.2
    rw [eB]
    rfl
  have eS : rcS (upS X 2 0) = rc0 (upS X 2 0) := by
    unfold rcS
    rw [eB]
    rfl
  have eL : ccL 60 1 (upS X 2 0) = (-1, rcS (upS X 2 0)) := by rw [ccL, if_pos hP]
  have ev : ccV X = -1 := by unfold ccV; rw [eL]
  have es : ccS X 11 3 2 = 0 := by
    unfold ccS
    rw [eL]
    show rcS (upS X 2 0) 11 3 2 = 0
    rw [eS]
    exact t0.2.2.1
  refine ⟨?_, ?_⟩
  · unfold v_commands
    rw [if_neg (fun q => q ev)]
  · unfold s_commands
    rw [if_neg (fun q => q ev), upS_s (by omega)]
    unfold upS
    rw [upC_at, up2_at]
    exact es
def ab (k : Nat) : Int32 := nI (65 + k)
theorem ab_c : ∀ k : Nat, k < 60 → ((65 + nI k).toUInt32 % 65536).toInt32 = ab k := by decide +kernel
theorem ab_ok (k : Nat) (h : k < 60) : chOk (ab k) := by
  rw [← ab_c k h]
  exact c2I_ok _
section ER
variable {p : Program} {l : Launch} {e : Env} {R : Room} {s : State} {m : MethodId} {args : Array Value} {below : List Frame} {meth : Method} {c : Code} {H : Heap} {locs : List Loc} {cells slots : Nat} {Q : State → Prop}
variable {ls : Array Slot} {g : GC} {M : HM} {x : Nat}
set_option maxHeartbeats 4000000 in
theorem er_apps (hc : Cx g p l s m args meth c cL_law 11 RL) (hlf : l.stackTraces = false) (hfr : 20 ≤ R.frames) (hlo : 1300 ≤ R.locals) {cs : CS} (hz : cs 11 3 1 = 0) {c0 s0 : Nat} (hce : c0 + 180 ≤ R.cells) (hse : s0 + 1080 ≤ R.slots)
    (kk : ∀ (H : Heap) (locs : List Loc) (ls : Array Slot), hR g (putC g M x (txS ab cs 60)) H → va_S (gA g) s.heap H locs → lv_has ls 11 [(1, .ref x), (0, .ref (gSb g))] → W p l e R s m args below meth c H locs (c0 + 3 * 60) (s0 + 18 * 60) Q (F0 m 87 ls [])) :
    ∀ (D k : Nat) (H : Heap) (locs : List Loc) (ls : Array Slot), 60 - k < D → k ≤ 60 → hR g (putC g M x (txS ab cs k)) H → va_S (gA g) s.heap H locs → lv_has ls 11 [(2, .int (nI k)), (1, .ref x), (0, .ref (gSb g))] → W p l e R s m args below meth c H locs (c0 + 3 * k) (s0 + 18 * k) Q (F0 m 58 ls []) := by
  have hx := hc.1
  have hb := hc.2.1
  intro D
  induction D with
  | zero => intro k H locs ls hD; exact absurd hD (Nat.not_lt_zero _)
  | succ D ih =>
    intro k H locs ls hD hk hM hS hl
    refine lv_iload_n hx hb dL_law_58 rfl (lv_at hl 0 rfl) ?_
    refine lv_bipush (v := 60) hx hb dL_law_59 (by decide) ?_
    refine lv_icmp_ge (tgt := 87) hx hb dL_law_61 (by decide) (fun c_t => ?_) (fun c_t => ?_)
    · have hk9 : 60 ≤ k := (nI_leI (a := 60) (b := k) (by omega) (by omega)).mp c_t
      obtain rfl : k = 60 := by omega
      exact kk H locs ls hM hS (lv_sub hl [1, 2] rfl)
    have hk9 : k < 60 := by
      rcases Nat.lt_or_ge k 60 with q | q
      · exact q
      · exact absurd (nI_le (a := 60) q (by omega)) c_t
    obtain ⟨e1, e2⟩ := ap_tx (ch := ab) (cs := cs) (i := k) hz hk9
    refine lv_aload_n hx hb dL_law_64 rfl (lv_at hl 1 rfl) ?_
    refine lv_bipush (v := 65) hx hb dL_law_65 (by decide) ?_
    refine lv_iload_n hx hb dL_law_67 rfl (lv_at hl 0 rfl) ?_
    refine lv_iadd hx hb dL_law_68 ?_
    refine lv_i2c (v := ab k) hx hb dL_law_69 (ab_c k hk9) ?_
    have k1 := h_append l hlf g (putC g M x (txS ab cs k)) x (txS ab cs k) (ab k) ClsAt.put (ab_ok k hk9)
    rw [e1, e2, putC_putC] at k1
    refine k_SX1 hc [.ref x, .int (ab k)] cw_L_150 dL_law_70 k1 hM hS hl.1 rfl rfl ⟨by omega, by omega⟩ ⟨by omega, by omega⟩ (Nat.le_of_ble_eq_true rfl) (fun H locs hM hS => ?_)
    refine lv_iload_n hx hb dL_law_73 rfl (lv_at hl 0 rfl) ?_
    refine lv_iconst (v := 1) hx hb dL_law_74 (by decide) ?_
    refine lv_iadd hx hb dL_law_75 ?_
    rw [nI_1]
    refine lv_icmp_eq (tgt := 81) hx hb dL_law_76 (by decide) (fun _ => ?_) (fun h => absurd rfl h)
    refine lv_iinc (v := nI (k + 1)) (lv' := [(2, .int (nI (k + 1))), (1, .ref x), (0, .ref (gSb g))]) hx hb dL_law_81 hl (k := 0) rfl (k_inc1 _) (by decide) rfl (fun ls hl => ?_)
    refine lv_goto (tgt := 58) hx hb dL_law_84 (by decide) ?_
    refine W.widen (k := c0 + 3 * (k + 1)) (n := s0 + 18 * (k + 1)) (by omega) (by omega) (ih (k + 1) H locs ls (by omega) (by omega) hM hS (lv_sub hl [0, 1, 2] rfl))
end ER
section ER_1
variable {p : Program} {l : Launch} {e : Env} {R : Room} {s : State} {m : MethodId} {args : Array Value} {below : List Frame} {meth : Method} {c : Code} {H : Heap} {locs : List Loc} {cells slots : Nat} {Q : State → Prop}
variable {ls : Array Slot} {g : GC} {M : HM} {x : Nat}
set_option maxHeartbeats 4000000 in
set_option maxRecDepth 100000 in
theorem er_1 (hc : Cx g p l s m args meth c cL_law 11 RL) (hlf : l.stackTraces = false) (hfr : 20 ≤ R.frames) (hlo : 1300 ≤ R.locals) {c0 : CS} (hE0 : ES 1 1 E1 c0) (hi0_0 : c0 (3 + 0) = E0) (hce : cells + 2000 ≤ R.cells) (hse : slots + 12000 ≤ R.slots) (hM : hR g (putC g M x c0) H) (hS : va_S (gA g) s.heap H locs) (hl : lv_has ls 11 [(1, .ref x), (0, .ref (gSb g))])
    (kk : ∀ (c9 : CS) (H : Heap) (locs : List Loc) (ls : Array Slot), ES 0 8 E24 c9 → c9 (3 + 6) = E22 → c9 (3 + 7) = E23 → hR g (putC g M x c9) H → va_S (gA g) s.heap H locs → lv_has ls 11 [(1, .ref x), (0, .ref (gSb g))] → W p l e R s m args below meth c H locs (cells + 23) (slots + 138) Q (F0 m 246 ls [])) : W p l e R s m args below meth c H locs cells slots Q (F0 m 138 ls []) := by
  have hx := hc.1
  have hb := hc.2.1
  refine lv_iconst (v := 0) hx hb dL_law_138 (by decide) ?_
  refine lv_istore_n (lv' := [(2, .int 0), (1, .ref x), (0, .ref (gSb g))]) hx hb dL_law_139 rfl hl (by decide) rfl (fun ls hl => ?_)
  refine lv_iload_n hx hb dL_law_140 rfl (lv_at hl 0 rfl) ?_
  refine lv_bipush (v := 10) hx hb dL_law_141 (by decide) ?_
  refine lv_icmp_ge (tgt := 166) hx hb dL_law_143 (by decide) (fun c_143 => absurd c_143 (by decide)) (fun c_143 => ?_)
  refine lv_aload_n hx hb dL_law_146 rfl (lv_at hl 1 rfl) ?_
  refine lv_bipush (v := 11) hx hb dL_law_147 (by decide) ?_
  refine lv_iload_n hx hb dL_law_149 rfl (lv_at hl 0 rfl) ?_
  refine lv_imul hx hb dL_law_150 ?_
  rw [show ((11 * 0) : Int32) = 0 from by decide]
  have k1 := h_stake l hlf g (putC g M x c0) x c0 0 ClsAt.put hE0.2.2.1.ok
  have r1 : dsO (c0 0) 0 = dsO E1 0 := by rw [hE0.1]
  obtain ⟨q1, hE1, hn1, hh1⟩ := es_ok (w := 0) hE0 (r1.trans ok_2) (by omega)
  obtain ⟨c1, ec1⟩ : ∃ cX, s_stake c0 0 = cX := ⟨_, rfl⟩
  rw [ec1, putC_putC, show v_stake c0 0 = 0 from q1] at k1
  rw [show sO c0 (dsO (c0 0) 0) = c1 from ec1] at hE1
  rw [show sO c0 (dsO (c0 0) 0) = c1 from ec1] at hn1
  have hh1 : ∀ j, j < 8 → j ≠ 1 → c1 (3 + j) = c0 (3 + j) := fun j hj hn => by have q9 := hh1 j hj hn; rwa [show sO c0 (dsO (c0 0) 0) = c1 from ec1] at q9
  clear ec1 q1 r1
  have hE1 : ES 2 2 E2 c1 := hE1
  have hi1_0 : c1 (3 + 0) = E0 := (hh1 0 (by omega) (by omega)).trans hi0_0
  have hi1_1 : c1 (3 + 1) = E1 := hn1
  refine k_SX1 hc [.ref x, .int 0] cw_L_172 dL_law_151 k1 hM hS hl.1 rfl rfl ⟨by omega, by omega⟩ ⟨by omega, by omega⟩ (Nat.le_of_ble_eq_true rfl) (fun H locs hM hS => ?_)
  refine lv_iload_n hx hb dL_law_154 rfl (lv_at hl 0 rfl) ?_
  refine lv_icmp_eq (tgt := 160) hx hb dL_law_155 (by decide) (fun c_155 => ?_) (fun c_155 => absurd c_155 (by decide))
  refine lv_iinc (v := 1) (lv' := [(2, .int 1), (1, .ref x), (0, .ref (gSb g))]) hx hb dL_law_160 hl (k := 0) rfl (by decide) (by decide) rfl (fun ls hl => ?_)
  refine lv_goto (tgt := 140) hx hb dL_law_163 (by decide) ?_
  refine lv_iload_n hx hb dL_law_140 rfl (lv_at hl 0 rfl) ?_
  refine lv_bipush (v := 10) hx hb dL_law_141 (by decide) ?_
  refine lv_icmp_ge (tgt := 166) hx hb dL_law_143 (by decide) (fun c_143 => absurd c_143 (by decide)) (fun c_143 => ?_)
  refine lv_aload_n hx hb dL_law_146 rfl (lv_at hl 1 rfl) ?_
  refine lv_bipush (v := 11) hx hb dL_law_147 (by decide) ?_
  refine lv_iload_n hx hb dL_law_149 rfl (lv_at hl 0 rfl) ?_
  refine lv_imul hx hb dL_law_150 ?_
  rw [show ((11 * 1) : Int32) = 11 from by decide]
  have k2 := h_stake l hlf g (putC g M x c1) x c1 11 ClsAt.put hE1.2.2.1.ok
  have r2 : dsO (c1 0) 11 = dsO E2 11 := by rw [hE1.1]
  obtain ⟨q2, hE2, hn2, hh2⟩ := es_ok (w := 1) hE1 (r2.trans ok_3) (by omega)
  obtain ⟨c2, ec2⟩ : ∃ cX, s_stake c1 11 = cX := ⟨_, rfl⟩
  rw [ec2, putC_putC, show v_stake c1 11 = 1 from q2] at k2
  rw [show sO c1 (dsO (c1 0) 11) = c2 from ec2] at hE2
  rw [show sO c1 (dsO (c1 0) 11) = c2 from ec2] at hn2
  have hh2 : ∀ j, j < 8 → j ≠ 2 → c2 (3 + j) = c1 (3 + j) := fun j hj hn => by have q9 := hh2 j hj hn; rwa [show sO c1 (dsO (c1 0) 11) = c2 from ec2] at q9
  clear ec2 q2 r2
  have hE2 : ES 3 3 E3 c2 := hE2
  have hi2_0 : c2 (3 + 0) = E0 := (hh2 0 (by omega) (by omega)).trans hi1_0
  have hi2_1 : c2 (3 + 1) = E1 := (hh2 1 (by omega) (by omega)).trans hi1_1
  have hi2_2 : c2 (3 + 2) = E2 := hn2
  refine k_SX1 hc [.ref x, .int 11] cw_L_172 dL_law_151 k2 hM hS hl.1 rfl rfl ⟨by omega, by omega⟩ ⟨by omega, by omega⟩ (Nat.le_of_ble_eq_true rfl) (fun H locs hM hS => ?_)
  refine lv_iload_n hx hb dL_law_154 rfl (lv_at hl 0 rfl) ?_
  refine lv_icmp_eq (tgt := 160) hx hb dL_law_155 (by decide) (fun c_155 => ?_) (fun c_155 => absurd c_155 (by decide))
  refine lv_iinc (v := 2) (lv' := [(2, .int 2), (1, .ref x), (0, .ref (gSb g))]) hx hb dL_law_160 hl (k := 0) rfl (by decide) (by decide) rfl (fun ls hl => ?_)
  refine lv_goto (tgt := 140) hx hb dL_law_163 (by decide) ?_
  refine lv_iload_n hx hb dL_law_140 rfl (lv_at hl 0 rfl) ?_
  refine lv_bipush (v := 10) hx hb dL_law_141 (by decide) ?_
  refine lv_icmp_ge (tgt := 166) hx hb dL_law_143 (by decide) (fun c_143 => absurd c_143 (by decide)) (fun c_143 => ?_)
  refine lv_aload_n hx hb dL_law_146 rfl (lv_at hl 1 rfl) ?_
  refine lv_bipush (v := 11) hx hb dL_law_147 (by decide) ?_
  refine lv_iload_n hx hb dL_law_149 rfl (lv_at hl 0 rfl) ?_
  refine lv_imul hx hb dL_law_150 ?_
  rw [show ((11 * 2) : Int32) = 22 from by decide]
  have k3 := h_stake l hlf g (putC g M x c2) x c2 22 ClsAt.put hE2.2.2.1.ok
  have r3 : dsO (c2 0) 22 = dsO E3 22 := by rw [hE2.1]
  obtain ⟨q3, hE3, hn3, hh3⟩ := es_ok (w := 2) hE2 (r3.trans ok_4) (by omega)
  obtain ⟨c3, ec3⟩ : ∃ cX, s_stake c2 22 = cX := ⟨_, rfl⟩
  rw [ec3, putC_putC, show v_stake c2 22 = 2 from q3] at k3
  rw [show sO c2 (dsO (c2 0) 22) = c3 from ec3] at hE3
  rw [show sO c2 (dsO (c2 0) 22) = c3 from ec3] at hn3
  have hh3 : ∀ j, j < 8 → j ≠ 3 → c3 (3 + j) = c2 (3 + j) := fun j hj hn => by have q9 := hh3 j hj hn; rwa [show sO c2 (dsO (c2 0) 22) = c3 from ec3] at q9
  clear ec3 q3 r3
  have hE3 : ES 4 4 E4 c3 := hE3
  have hi3_1 : c3 (3 + 1) = E1 := (hh3 1 (by omega) (by omega)).trans hi2_1
  have hi3_2 : c3 (3 + 2) = E2 := (hh3 2 (by omega) (by omega)).trans hi2_2
  have hi3_3 : c3 (3 + 3) = E3 := hn3
  refine k_SX1 hc [.ref x, .int 22] cw_L_172 dL_law_151 k3 hM hS hl.1 rfl rfl ⟨by omega, by omega⟩ ⟨by omega, by omega⟩ (Nat.le_of_ble_eq_true rfl) (fun H locs hM hS => ?_)
  refine lv_iload_n hx hb dL_law_154 rfl (lv_at hl 0 rfl) ?_
  refine lv_icmp_eq (tgt := 160) hx hb dL_law_155 (by decide) (fun c_155 => ?_) (fun c_155 => absurd c_155 (by decide))
  refine lv_iinc (v := 3) (lv' := [(2, .int 3), (1, .ref x), (0, .ref (gSb g))]) hx hb dL_law_160 hl (k := 0) rfl (by decide) (by decide) rfl (fun ls hl => ?_)
  refine lv_goto (tgt := 140) hx hb dL_law_163 (by decide) ?_
  refine lv_iload_n hx hb dL_law_140 rfl (lv_at hl 0 rfl) ?_
  refine lv_bipush (v := 10) hx hb dL_law_141 (by decide) ?_
  refine lv_icmp_ge (tgt := 166) hx hb dL_law_143 (by decide) (fun c_143 => absurd c_143 (by decide)) (fun c_143 => ?_)
  refine lv_aload_n hx hb dL_law_146 rfl (lv_at hl 1 rfl) ?_
  refine lv_bipush (v := 11) hx hb dL_law_147 (by decide) ?_
  refine lv_iload_n hx hb dL_law_149 rfl (lv_at hl 0 rfl) ?_
  refine lv_imul hx hb dL_law_150 ?_
  rw [show ((11 * 3) : Int32) = 33 from by decide]
  have k4 := h_stake l hlf g (putC g M x c3) x c3 33 ClsAt.put hE3.2.2.1.ok
  have r4 : dsO (c3 0) 33 = dsO E4 33 := by rw [hE3.1]
  obtain ⟨q4, hE4, hn4, hh4⟩ := es_ok (w := 3) hE3 (r4.trans ok_5) (by omega)
  obtain ⟨c4, ec4⟩ : ∃ cX, s_stake c3 33 = cX := ⟨_, rfl⟩
  rw [ec4, putC_putC, show v_stake c3 33 = 3 from q4] at k4
  rw [show sO c3 (dsO (c3 0) 33) = c4 from ec4] at hE4
  rw [show sO c3 (dsO (c3 0) 33) = c4 from ec4] at hn4
  have hh4 : ∀ j, j < 8 → j ≠ 4 → c4 (3 + j) = c3 (3 + j) := fun j hj hn => by have q9 := hh4 j hj hn; rwa [show sO c3 (dsO (c3 0) 33) = c4 from ec4] at q9
  clear ec4 q4 r4
  have hE4 : ES 5 5 E5 c4 := hE4
  have hi4_2 : c4 (3 + 2) = E2 := (hh4 2 (by omega) (by omega)).trans hi3_2
  have hi4_3 : c4 (3 + 3) = E3 := (hh4 3 (by omega) (by omega)).trans hi3_3
  have hi4_4 : c4 (3 + 4) = E4 := hn4
  refine k_SX1 hc [.ref x, .int 33] cw_L_172 dL_law_151 k4 hM hS hl.1 rfl rfl ⟨by omega, by omega⟩ ⟨by omega, by omega⟩ (Nat.le_of_ble_eq_true rfl) (fun H locs hM hS => ?_)
  refine lv_iload_n hx hb dL_law_154 rfl (lv_at hl 0 rfl) ?_
  refine lv_icmp_eq (tgt := 160) hx hb dL_law_155 (by decide) (fun c_155 => ?_) (fun c_155 => absurd c_155 (by decide))
  refine lv_iinc (v := 4) (lv' := [(2, .int 4), (1, .ref x), (0, .ref (gSb g))]) hx hb dL_law_160 hl (k := 0) rfl (by decide) (by decide) rfl (fun ls hl => ?_)
  refine lv_goto (tgt := 140) hx hb dL_law_163 (by decide) ?_
  refine lv_iload_n hx hb dL_law_140 rfl (lv_at hl 0 rfl) ?_
  refine lv_bipush (v := 10) hx hb dL_law_141 (by decide) ?_
  refine lv_icmp_ge (tgt := 166) hx hb dL_law_143 (by decide) (fun c_143 => absurd c_143 (by decide)) (fun c_143 => ?_)
  refine lv_aload_n hx hb dL_law_146 rfl (lv_at hl 1 rfl) ?_
  refine lv_bipush (v := 11) hx hb dL_law_147 (by decide) ?_
  refine lv_iload_n hx hb dL_law_149 rfl (lv_at hl 0 rfl) ?_
  refine lv_imul hx hb dL_law_150 ?_
  rw [show ((11 * 4) : Int32) = 44 from by decide]
  have k5 := h_stake l hlf g (putC g M x c4) x c4 44 ClsAt.put hE4.2.2.1.ok
  have r5 : dsO (c4 0) 44 = dsO E5 44 := by rw [hE4.1]
  obtain ⟨q5, hE5, hn5, hh5⟩ := es_ok (w := 4) hE4 (r5.trans ok_6) (by omega)
  obtain ⟨c5, ec5⟩ : ∃ cX, s_stake c4 44 = cX := ⟨_, rfl⟩
  rw [ec5, putC_putC, show v_stake c4 44 = 4 from q5] at k5
  rw [show sO c4 (dsO (c4 0) 44) = c5 from ec5] at hE5
  rw [show sO c4 (dsO (c4 0) 44) = c5 from ec5] at hn5
  have hh5 : ∀ j, j < 8 → j ≠ 5 → c5 (3 + j) = c4 (3 + j) := fun j hj hn => by have q9 := hh5 j hj hn; rwa [show sO c4 (dsO (c4 0) 44) = c5 from ec5] at q9
  clear ec5 q5 r5
  have hE5 : ES 6 6 E6 c5 := hE5
  have hi5_3 : c5 (3 + 3) = E3 := (hh5 3 (by omega) (by omega)).trans hi4_3
  have hi5_4 : c5 (3 + 4) = E4 := (hh5 4 (by omega) (by omega)).trans hi4_4
  have hi5_5 : c5 (3 + 5) = E5 := hn5
  refine k_SX1 hc [.ref x, .int 44] cw_L_172 dL_law_151 k5 hM hS hl.1 rfl rfl ⟨by omega, by omega⟩ ⟨by omega, by omega⟩ (Nat.le_of_ble_eq_true rfl) (fun H locs hM hS => ?_)
  refine lv_iload_n hx hb dL_law_154 rfl (lv_at hl 0 rfl) ?_
  refine lv_icmp_eq (tgt := 160) hx hb dL_law_155 (by decide) (fun c_155 => ?_) (fun c_155 => absurd c_155 (by decide))
  refine lv_iinc (v := 5) (lv' := [(2, .int 5), (1, .ref x), (0, .ref (gSb g))]) hx hb dL_law_160 hl (k := 0) rfl (by decide) (by decide) rfl (fun ls hl => ?_)
  refine lv_goto (tgt := 140) hx hb dL_law_163 (by decide) ?_
  refine lv_iload_n hx hb dL_law_140 rfl (lv_at hl 0 rfl) ?_
  refine lv_bipush (v := 10) hx hb dL_law_141 (by decide) ?_
  refine lv_icmp_ge (tgt := 166) hx hb dL_law_143 (by decide) (fun c_143 => absurd c_143 (by decide)) (fun c_143 => ?_)
  refine lv_aload_n hx hb dL_law_146 rfl (lv_at hl 1 rfl) ?_
  refine lv_bipush (v := 11) hx hb dL_law_147 (by decide) ?_
  refine lv_iload_n hx hb dL_law_149 rfl (lv_at hl 0 rfl) ?_
  refine lv_imul hx hb dL_law_150 ?_
  rw [show ((11 * 5) : Int32) = 55 from by decide]
  have k6 := h_stake l hlf g (putC g M x c5) x c5 55 ClsAt.put hE5.2.2.1.ok
  have r6 : dsO (c5 0) 55 = dsO E6 55 := by rw [hE5.1]
  obtain ⟨q6, hE6, hn6, hh6⟩ := es_ok (w := 5) hE5 (r6.trans ok_7) (by omega)
  obtain ⟨c6, ec6⟩ : ∃ cX, s_stake c5 55 = cX := ⟨_, rfl⟩
  rw [ec6, putC_putC, show v_stake c5 55 = 5 from q6] at k6
  rw [show sO c5 (dsO (c5 0) 55) = c6 from ec6] at hE6
  rw [show sO c5 (dsO (c5 0) 55) = c6 from ec6] at hn6
  have hh6 : ∀ j, j < 8 → j ≠ 6 → c6 (3 + j) = c5 (3 + j) := fun j hj hn => by have q9 := hh6 j hj hn; rwa [show sO c5 (dsO (c5 0) 55) = c6 from ec6] at q9
  clear ec6 q6 r6
  have hE6 : ES 7 7 E7 c6 := hE6
  have hi6_4 : c6 (3 + 4) = E4 := (hh6 4 (by omega) (by omega)).trans hi5_4
  have hi6_5 : c6 (3 + 5) = E5 := (hh6 5 (by omega) (by omega)).trans hi5_5
  have hi6_6 : c6 (3 + 6) = E6 := hn6
  refine k_SX1 hc [.ref x, .int 55] cw_L_172 dL_law_151 k6 hM hS hl.1 rfl rfl ⟨by omega, by omega⟩ ⟨by omega, by omega⟩ (Nat.le_of_ble_eq_true rfl) (fun H locs hM hS => ?_)
  refine lv_iload_n hx hb dL_law_154 rfl (lv_at hl 0 rfl) ?_
  refine lv_icmp_eq (tgt := 160) hx hb dL_law_155 (by decide) (fun c_155 => ?_) (fun c_155 => absurd c_155 (by decide))
  refine lv_iinc (v := 6) (lv' := [(2, .int 6), (1, .ref x), (0, .ref (gSb g))]) hx hb dL_law_160 hl (k := 0) rfl (by decide) (by decide) rfl (fun ls hl => ?_)
  refine lv_goto (tgt := 140) hx hb dL_law_163 (by decide) ?_
  refine lv_iload_n hx hb dL_law_140 rfl (lv_at hl 0 rfl) ?_
  refine lv_bipush (v := 10) hx hb dL_law_141 (by decide) ?_
  refine lv_icmp_ge (tgt := 166) hx hb dL_law_143 (by decide) (fun c_143 => absurd c_143 (by decide)) (fun c_143 => ?_)
  refine lv_aload_n hx hb dL_law_146 rfl (lv_at hl 1 rfl) ?_
  refine lv_bipush (v := 11) hx hb dL_law_147 (by decide) ?_
  refine lv_iload_n hx hb dL_law_149 rfl (lv_at hl 0 rfl) ?_
  refine lv_imul hx hb dL_law_150 ?_
  rw [show ((11 * 6) : Int32) = 66 from by decide]
  have k7 := h_stake l hlf g (putC g M x c6) x c6 66 ClsAt.put hE6.2.2.1.ok
  have r7 : dsO (c6 0) 66 = dsO E7 66 := by rw [hE6.1]
  obtain ⟨q7, hE7, hn7, hh7⟩ := es_ok (w := 6) hE6 (r7.trans ok_8) (by omega)
  obtain ⟨c7, ec7⟩ : ∃ cX, s_stake c6 66 = cX := ⟨_, rfl⟩
  rw [ec7, putC_putC, show v_stake c6 66 = 6 from q7] at k7
  rw [show sO c6 (dsO (c6 0) 66) = c7 from ec7] at hE7
  rw [show sO c6 (dsO (c6 0) 66) = c7 from ec7] at hn7
  have hh7 : ∀ j, j < 8 → j ≠ 7 → c7 (3 + j) = c6 (3 + j) := fun j hj hn => by have q9 := hh7 j hj hn; rwa [show sO c6 (dsO (c6 0) 66) = c7 from ec7] at q9
  clear ec7 q7 r7
  have hE7 : ES 0 8 E8 c7 := hE7
  have hi7_5 : c7 (3 + 5) = E5 := (hh7 5 (by omega) (by omega)).trans hi6_5
  have hi7_6 : c7 (3 + 6) = E6 := (hh7 6 (by omega) (by omega)).trans hi6_6
  have hi7_7 : c7 (3 + 7) = E7 := hn7
  refine k_SX1 hc [.ref x, .int 66] cw_L_172 dL_law_151 k7 hM hS hl.1 rfl rfl ⟨by omega, by omega⟩ ⟨by omega, by omega⟩ (Nat.le_of_ble_eq_true rfl) (fun H locs hM hS => ?_)
  refine lv_iload_n hx hb dL_law_154 rfl (lv_at hl 0 rfl) ?_
  refine lv_icmp_eq (tgt := 160) hx hb dL_law_155 (by decide) (fun c_155 => ?_) (fun c_155 => absurd c_155 (by decide))
  refine lv_iinc (v := 7) (lv' := [(2, .int 7), (1, .ref x), (0, .ref (gSb g))]) hx hb dL_law_160 hl (k := 0) rfl (by decide) (by decide) rfl (fun ls hl => ?_)
  refine lv_goto (tgt := 140) hx hb dL_law_163 (by decide) ?_
  refine lv_iload_n hx hb dL_law_140 rfl (lv_at hl 0 rfl) ?_
  refine lv_bipush (v := 10) hx hb dL_law_141 (by decide) ?_
  refine lv_icmp_ge (tgt := 166) hx hb dL_law_143 (by decide) (fun c_143 => absurd c_143 (by decide)) (fun c_143 => ?_)
  refine lv_aload_n hx hb dL_law_146 rfl (lv_at hl 1 rfl) ?_
  refine lv_bipush (v := 11) hx hb dL_law_147 (by decide) ?_
  refine lv_iload_n hx hb dL_law_149 rfl (lv_at hl 0 rfl) ?_
  refine lv_imul hx hb dL_law_150 ?_
  rw [show ((11 * 7) : Int32) = 77 from by decide]
  have k8 := h_stake l hlf g (putC g M x c7) x c7 77 ClsAt.put hE7.2.2.1.ok
  have r8 : dsO (c7 0) 77 = dsO E8 77 := by rw [hE7.1]
  obtain ⟨q8, hE8, hn8, hh8⟩ := es_ok (w := 7) hE7 (r8.trans ok_9) (by omega)
  obtain ⟨c8, ec8⟩ : ∃ cX, s_stake c7 77 = cX := ⟨_, rfl⟩
  rw [ec8, putC_putC, show v_stake c7 77 = 7 from q8] at k8
  rw [show sO c7 (dsO (c7 0) 77) = c8 from ec8] at hE8
  rw [show sO c7 (dsO (c7 0) 77) = c8 from ec8] at hn8
  have hh8 : ∀ j, j < 8 → j ≠ 0 → c8 (3 + j) = c7 (3 + j) := fun j hj hn => by have q9 := hh8 j hj hn; rwa [show sO c7 (dsO (c7 0) 77) = c8 from ec8] at q9
  clear ec8 q8 r8
  have hE8 : ES 1 8 E9 c8 := hE8
  have hi8_6 : c8 (3 + 6) = E6 := (hh8 6 (by omega) (by omega)).trans hi7_6
  have hi8_7 : c8 (3 + 7) = E7 := (hh8 7 (by omega) (by omega)).trans hi7_7
  have hi8_0 : c8 (3 + 0) = E8 := hn8
  refine k_SX1 hc [.ref x, .int 77] cw_L_172 dL_law_151 k8 hM hS hl.1 rfl rfl ⟨by omega, by omega⟩ ⟨by omega, by omega⟩ (Nat.le_of_ble_eq_true rfl) (fun H locs hM hS => ?_)
  refine lv_iload_n hx hb dL_law_154 rfl (lv_at hl 0 rfl) ?_
  refine lv_icmp_eq (tgt := 160) hx hb dL_law_155 (by decide) (fun c_155 => ?_) (fun c_155 => absurd c_155 (by decide))
  refine lv_iinc (v := 8) (lv' := [(2, .int 8), (1, .ref x), (0, .ref (gSb g))]) hx hb dL_law_160 hl (k := 0) rfl (by decide) (by decide) rfl (fun ls hl => ?_)
  refine lv_goto (tgt := 140) hx hb dL_law_163 (by decide) ?_
  refine lv_iload_n hx hb dL_law_140 rfl (lv_at hl 0 rfl) ?_
  refine lv_bipush (v := 10) hx hb dL_law_141 (by decide) ?_
  refine lv_icmp_ge (tgt := 166) hx hb dL_law_143 (by decide) (fun c_143 => absurd c_143 (by decide)) (fun c_143 => ?_)
  refine lv_aload_n hx hb dL_law_146 rfl (lv_at hl 1 rfl) ?_
  refine lv_bipush (v := 11) hx hb dL_law_147 (by decide) ?_
  refine lv_iload_n hx hb dL_law_149 rfl (lv_at hl 0 rfl) ?_
  refine lv_imul hx hb dL_law_150 ?_
  rw [show ((11 * 8) : Int32) = 88 from by decide]
  have k9 := h_stake l hlf g (putC g M x c8) x c8 88 ClsAt.put hE8.2.2.1.ok
  have r9 : dsO (c8 0) 88 = dsO E9 88 := by rw [hE8.1]
  obtain ⟨q9, hE9, hn9, hh9⟩ := es_ok (w := 8) hE8 (r9.trans ok_10) (by omega)
  obtain ⟨c9, ec9⟩ : ∃ cX, s_stake c8 88 = cX := ⟨_, rfl⟩
  rw [ec9, putC_putC, show v_stake c8 88 = 8 from q9] at k9
  rw [show sO c8 (dsO (c8 0) 88) = c9 from ec9] at hE9
  rw [show sO c8 (dsO (c8 0) 88) = c9 from ec9] at hn9
  have hh9 : ∀ j, j < 8 → j ≠ 1 → c9 (3 + j) = c8 (3 + j) := fun j hj hn => by have q9 := hh9 j hj hn; rwa [show sO c8 (dsO (c8 0) 88) = c9 from ec9] at q9
  clear ec9 q9 r9
  have hE9 : ES 2 8 E10 c9 := hE9
  have hi9_7 : c9 (3 + 7) = E7 := (hh9 7 (by omega) (by omega)).trans hi8_7
  have hi9_0 : c9 (3 + 0) = E8 := (hh9 0 (by omega) (by omega)).trans hi8_0
  have hi9_1 : c9 (3 + 1) = E9 := hn9
  refine k_SX1 hc [.ref x, .int 88] cw_L_172 dL_law_151 k9 hM hS hl.1 rfl rfl ⟨by omega, by omega⟩ ⟨by omega, by omega⟩ (Nat.le_of_ble_eq_true rfl) (fun H locs hM hS => ?_)
  refine lv_iload_n hx hb dL_law_154 rfl (lv_at hl 0 rfl) ?_
  refine lv_icmp_eq (tgt := 160) hx hb dL_law_155 (by decide) (fun c_155 => ?_) (fun c_155 => absurd c_155 (by decide))
  refine lv_iinc (v := 9) (lv' := [(2, .int 9), (1, .ref x), (0, .ref (gSb g))]) hx hb dL_law_160 hl (k := 0) rfl (by decide) (by decide) rfl (fun ls hl => ?_)
  refine lv_goto (tgt := 140) hx hb dL_law_163 (by decide) ?_
  refine lv_iload_n hx hb dL_law_140 rfl (lv_at hl 0 rfl) ?_
  refine lv_bipush (v := 10) hx hb dL_law_141 (by decide) ?_
  refine lv_icmp_ge (tgt := 166) hx hb dL_law_143 (by decide) (fun c_143 => absurd c_143 (by decide)) (fun c_143 => ?_)
  refine lv_aload_n hx hb dL_law_146 rfl (lv_at hl 1 rfl) ?_
  refine lv_bipush (v := 11) hx hb dL_law_147 (by decide) ?_
  refine lv_iload_n hx hb dL_law_149 rfl (lv_at hl 0 rfl) ?_
  refine lv_imul hx hb dL_law_150 ?_
  rw [show ((11 * 9) : Int32) = 99 from by decide]
  have k10 := h_stake l hlf g (putC g M x c9) x c9 99 ClsAt.put hE9.2.2.1.ok
  have r10 : dsO (c9 0) 99 = dsO E10 99 := by rw [hE9.1]
  obtain ⟨q10, hE10, hn10, hh10⟩ := es_ok (w := 9) hE9 (r10.trans ok_11) (by omega)
  obtain ⟨c10, ec10⟩ : ∃ cX, s_stake c9 99 = cX := ⟨_, rfl⟩
  rw [ec10, putC_putC, show v_stake c9 99 = 9 from q10] at k10
  rw [show sO c9 (dsO (c9 0) 99) = c10 from ec10] at hE10
  rw [show sO c9 (dsO (c9 0) 99) = c10 from ec10] at hn10
  have hh10 : ∀ j, j < 8 → j ≠ 2 → c10 (3 + j) = c9 (3 + j) := fun j hj hn => by have q9 := hh10 j hj hn; rwa [show sO c9 (dsO (c9 0) 99) = c10 from ec10] at q9
  clear ec10 q10 r10
  have hE10 : ES 3 8 E11 c10 := hE10
  have hi10_0 : c10 (3 + 0) = E8 := (hh10 0 (by omega) (by omega)).trans hi9_0
  have hi10_1 : c10 (3 + 1) = E9 := (hh10 1 (by omega) (by omega)).trans hi9_1
  have hi10_2 : c10 (3 + 2) = E10 := hn10
  refine k_SX1 hc [.ref x, .int 99] cw_L_172 dL_law_151 k10 hM hS hl.1 rfl rfl ⟨by omega, by omega⟩ ⟨by omega, by omega⟩ (Nat.le_of_ble_eq_true rfl) (fun H locs hM hS => ?_)
  refine lv_iload_n hx hb dL_law_154 rfl (lv_at hl 0 rfl) ?_
  refine lv_icmp_eq (tgt := 160) hx hb dL_law_155 (by decide) (fun c_155 => ?_) (fun c_155 => absurd c_155 (by decide))
  refine lv_iinc (v := 10) (lv' := [(2, .int 10), (1, .ref x), (0, .ref (gSb g))]) hx hb dL_law_160 hl (k := 0) rfl (by decide) (by decide) rfl (fun ls hl => ?_)
  refine lv_goto (tgt := 140) hx hb dL_law_163 (by decide) ?_
  refine lv_iload_n hx hb dL_law_140 rfl (lv_at hl 0 rfl) ?_
  refine lv_bipush (v := 10) hx hb dL_law_141 (by decide) ?_
  refine lv_icmp_ge (tgt := 166) hx hb dL_law_143 (by decide) (fun c_143 => ?_) (fun c_143 => absurd c_143 (by decide))
  refine lv_iconst (v := 0) hx hb dL_law_166 (by decide) ?_
  refine lv_istore_n (lv' := [(2, .int 0), (1, .ref x), (0, .ref (gSb g))]) hx hb dL_law_167 rfl hl (by decide) rfl (fun ls hl => ?_)
  refine lv_iload_n hx hb dL_law_168 rfl (lv_at hl 0 rfl) ?_
  refine lv_iconst (v := 4) hx hb dL_law_169 (by decide) ?_
  refine lv_icmp_ge (tgt := 197) hx hb dL_law_170 (by decide) (fun c_170 => absurd c_170 (by decide)) (fun c_170 => ?_)
  refine lv_aload_n hx hb dL_law_173 rfl (lv_at hl 1 rfl) ?_
  refine lv_bipush (v := 99) hx hb dL_law_174 (by decide) ?_
  refine lv_bipush (v := 9) hx hb dL_law_176 (by decide) ?_
  refine lv_iload_n hx hb dL_law_178 rfl (lv_at hl 0 rfl) ?_
  refine lv_iconst (v := 2) hx hb dL_law_179 (by decide) ?_
  refine lv_idiv hx hb dL_law_180 (by decide) ?_
  refine lv_isub hx hb dL_law_181 ?_
  rw [show ((9 - (0 / 2)) : Int32) = 9 from by decide]
  have k11 := h_post l hlf g (putC g M x c10) x c10 99 9 ClsAt.put hE10.2.2.1.ok
  have r11 : spO (c10 0) 99 9 = spO E11 99 9 := by rw [hE10.1]
  obtain ⟨q11, hE11, hn11, hh11⟩ := es_ok (w := 0) hE10 (r11.trans ok_12) (by omega)
  obtain ⟨c11, ec11⟩ : ∃ cX, s_post c10 99 9 = cX := ⟨_, rfl⟩
  rw [ec11, putC_putC, show v_post c10 99 9 = 0 from q11] at k11
  rw [show sO c10 (spO (c10 0) 99 9) = c11 from ec11] at hE11
  rw [show sO c10 (spO (c10 0) 99 9) = c11 from ec11] at hn11
  have hh11 : ∀ j, j < 8 → j ≠ 3 → c11 (3 + j) = c10 (3 + j) := fun j hj hn => by have q9 := hh11 j hj hn; rwa [show sO c10 (spO (c10 0) 99 9) = c11 from ec11] at q9
  clear ec11 q11 r11
  have hE11 : ES 4 8 E12 c11 := hE11
  have hi11_1 : c11 (3 + 1) = E9 := (hh11 1 (by omega) (by omega)).trans hi10_1
  have hi11_2 : c11 (3 + 2) = E10 := (hh11 2 (by omega) (by omega)).trans hi10_2
  have hi11_3 : c11 (3 + 3) = E11 := hn11
  refine k_SX1 hc [.ref x, .int 99, .int 9] cw_L_174 dL_law_182 k11 hM hS hl.1 rfl rfl ⟨by omega, by omega⟩ ⟨by omega, by omega⟩ (Nat.le_of_ble_eq_true rfl) (fun H locs hM hS => ?_)
  refine lv_iload_n hx hb dL_law_185 rfl (lv_at hl 0 rfl) ?_
  refine lv_icmp_eq (tgt := 191) hx hb dL_law_186 (by decide) (fun c_186 => ?_) (fun c_186 => absurd c_186 (by decide))
  refine lv_iinc (v := 1) (lv' := [(2, .int 1), (1, .ref x), (0, .ref (gSb g))]) hx hb dL_law_191 hl (k := 0) rfl (by decide) (by decide) rfl (fun ls hl => ?_)
  refine lv_goto (tgt := 168) hx hb dL_law_194 (by decide) ?_
  refine lv_iload_n hx hb dL_law_168 rfl (lv_at hl 0 rfl) ?_
  refine lv_iconst (v := 4) hx hb dL_law_169 (by decide) ?_
  refine lv_icmp_ge (tgt := 197) hx hb dL_law_170 (by decide) (fun c_170 => absurd c_170 (by decide)) (fun c_170 => ?_)
  refine lv_aload_n hx hb dL_law_173 rfl (lv_at hl 1 rfl) ?_
  refine lv_bipush (v := 99) hx hb dL_law_174 (by decide) ?_
  refine lv_bipush (v := 9) hx hb dL_law_176 (by decide) ?_
  refine lv_iload_n hx hb dL_law_178 rfl (lv_at hl 0 rfl) ?_
  refine lv_iconst (v := 2) hx hb dL_law_179 (by decide) ?_
  refine lv_idiv hx hb dL_law_180 (by decide) ?_
  refine lv_isub hx hb dL_law_181 ?_
  rw [show ((9 - (1 / 2)) : Int32) = 9 from by decide]
  have k12 := h_post l hlf g (putC g M x c11) x c11 99 9 ClsAt.put hE11.2.2.1.ok
  have r12 : spO (c11 0) 99 9 = spO E12 99 9 := by rw [hE11.1]
  obtain ⟨q12, hE12, hn12, hh12⟩ := es_ok (w := 1) hE11 (r12.trans ok_13) (by omega)
  obtain ⟨c12, ec12⟩ : ∃ cX, s_post c11 99 9 = cX := ⟨_, rfl⟩
  rw [ec12, putC_putC, show v_post c11 99 9 = 1 from q12] at k12
  rw [show sO c11 (spO (c11 0) 99 9) = c12 from ec12] at hE12
  rw [show sO c11 (spO (c11 0) 99 9) = c12 from ec12] at hn12
  have hh12 : ∀ j, j < 8 → j ≠ 4 → c12 (3 + j) = c11 (3 + j) := fun j hj hn => by have q9 := hh12 j hj hn; rwa [show sO c11 (spO (c11 0) 99 9) = c12 from ec12] at q9
  clear ec12 q12 r12
  have hE12 : ES 5 8 E13 c12 := hE12
  have hi12_2 : c12 (3 + 2) = E10 := (hh12 2 (by omega) (by omega)).trans hi11_2
  have hi12_3 : c12 (3 + 3) = E11 := (hh12 3 (by omega) (by omega)).trans hi11_3
  have hi12_4 : c12 (3 + 4) = E12 := hn12
  refine k_SX1 hc [.ref x, .int 99, .int 9] cw_L_174 dL_law_182 k12 hM hS hl.1 rfl rfl ⟨by omega, by omega⟩ ⟨by omega, by omega⟩ (Nat.le_of_ble_eq_true rfl) (fun H locs hM hS => ?_)
  refine lv_iload_n hx hb dL_law_185 rfl (lv_at hl 0 rfl) ?_
  refine lv_icmp_eq (tgt := 191) hx hb dL_law_186 (by decide) (fun c_186 => ?_) (fun c_186 => absurd c_186 (by decide))
  refine lv_iinc (v := 2) (lv' := [(2, .int 2), (1, .ref x), (0, .ref (gSb g))]) hx hb dL_law_191 hl (k := 0) rfl (by decide) (by decide) rfl (fun ls hl => ?_)
  refine lv_goto (tgt := 168) hx hb dL_law_194 (by decide) ?_
  refine lv_iload_n hx hb dL_law_168 rfl (lv_at hl 0 rfl) ?_
  refine lv_iconst (v := 4) hx hb dL_law_169 (by decide) ?_
  refine lv_icmp_ge (tgt := 197) hx hb dL_law_170 (by decide) (fun c_170 => absurd c_170 (by decide)) (fun c_170 => ?_)
  refine lv_aload_n hx hb dL_law_173 rfl (lv_at hl 1 rfl) ?_
  refine lv_bipush (v := 99) hx hb dL_law_174 (by decide) ?_
  refine lv_bipush (v := 9) hx hb dL_law_176 (by decide) ?_
  refine lv_iload_n hx hb dL_law_178 rfl (lv_at hl 0 rfl) ?_
  refine lv_iconst (v := 2) hx hb dL_law_179 (by decide) ?_
  refine lv_idiv hx hb dL_law_180 (by decide) ?_
  refine lv_isub hx hb dL_law_181 ?_
  rw [show ((9 - (2 / 2)) : Int32) = 8 from by decide]
  have k13 := h_post l hlf g (putC g M x c12) x c12 99 8 ClsAt.put hE12.2.2.1.ok
  have r13 : spO (c12 0) 99 8 = spO E13 99 8 := by rw [hE12.1]
  obtain ⟨q13, hE13, hn13, hh13⟩ := es_ok (w := 2) hE12 (r13.trans ok_14) (by omega)
  obtain ⟨c13, ec13⟩ : ∃ cX, s_post c12 99 8 = cX := ⟨_, rfl⟩
  rw [ec13, putC_putC, show v_post c12 99 8 = 2 from q13] at k13
  rw [show sO c12 (spO (c12 0) 99 8) = c13 from ec13] at hE13
  rw [show sO c12 (spO (c12 0) 99 8) = c13 from ec13] at hn13
  have hh13 : ∀ j, j < 8 → j ≠ 5 → c13 (3 + j) = c12 (3 + j) := fun j hj hn => by have q9 := hh13 j hj hn; rwa [show sO c12 (spO (c12 0) 99 8) = c13 from ec13] at q9
  clear ec13 q13 r13
  have hE13 : ES 6 8 E14 c13 := hE13
  have hi13_3 : c13 (3 + 3) = E11 := (hh13 3 (by omega) (by omega)).trans hi12_3
  have hi13_4 : c13 (3 + 4) = E12 := (hh13 4 (by omega) (by omega)).trans hi12_4
  have hi13_5 : c13 (3 + 5) = E13 := hn13
  refine k_SX1 hc [.ref x, .int 99, .int 8] cw_L_174 dL_law_182 k13 hM hS hl.1 rfl rfl ⟨by omega, by omega⟩ ⟨by omega, by omega⟩ (Nat.le_of_ble_eq_true rfl) (fun H locs hM hS => ?_)
  refine lv_iload_n hx hb dL_law_185 rfl (lv_at hl 0 rfl) ?_
  refine lv_icmp_eq (tgt := 191) hx hb dL_law_186 (by decide) (fun c_186 => ?_) (fun c_186 => absurd c_186 (by decide))
  refine lv_iinc (v := 3) (lv' := [(2, .int 3), (1, .ref x), (0, .ref (gSb g))]) hx hb dL_law_191 hl (k := 0) rfl (by decide) (by decide) rfl (fun ls hl => ?_)
  refine lv_goto (tgt := 168) hx hb dL_law_194 (by decide) ?_
  refine lv_iload_n hx hb dL_law_168 rfl (lv_at hl 0 rfl) ?_
  refine lv_iconst (v := 4) hx hb dL_law_169 (by decide) ?_
  refine lv_icmp_ge (tgt := 197) hx hb dL_law_170 (by decide) (fun c_170 => absurd c_170 (by decide)) (fun c_170 => ?_)
  refine lv_aload_n hx hb dL_law_173 rfl (lv_at hl 1 rfl) ?_
  refine lv_bipush (v := 99) hx hb dL_law_174 (by decide) ?_
  refine lv_bipush (v := 9) hx hb dL_law_176 (by decide) ?_
  refine lv_iload_n hx hb dL_law_178 rfl (lv_at hl 0 rfl) ?_
  refine lv_iconst (v := 2) hx hb dL_law_179 (by decide) ?_
  refine lv_idiv hx hb dL_law_180 (by decide) ?_
  refine lv_isub hx hb dL_law_181 ?_
  rw [show ((9 - (3 / 2)) : Int32) = 8 from by decide]
  have k14 := h_post l hlf g (putC g M x c13) x c13 99 8 ClsAt.put hE13.2.2.1.ok
  have r14 : spO (c13 0) 99 8 = spO E14 99 8 := by rw [hE13.1]
  obtain ⟨q14, hE14, hn14, hh14⟩ := es_ok (w := 3) hE13 (r14.trans ok_15) (by omega)
  obtain ⟨c14, ec14⟩ : ∃ cX, s_post c13 99 8 = cX := ⟨_, rfl⟩
  rw [ec14, putC_putC, show v_post c13 99 8 = 3 from q14] at k14
  rw [show sO c13 (spO (c13 0) 99 8) = c14 from ec14] at hE14
  rw [show sO c13 (spO (c13 0) 99 8) = c14 from ec14] at hn14
  have hh14 : ∀ j, j < 8 → j ≠ 6 → c14 (3 + j) = c13 (3 + j) := fun j hj hn => by have q9 := hh14 j hj hn; rwa [show sO c13 (spO (c13 0) 99 8) = c14 from ec14] at q9
  clear ec14 q14 r14
  have hE14 : ES 7 8 E15 c14 := hE14
  have hi14_4 : c14 (3 + 4) = E12 := (hh14 4 (by omega) (by omega)).trans hi13_4
  have hi14_5 : c14 (3 + 5) = E13 := (hh14 5 (by omega) (by omega)).trans hi13_5
  have hi14_6 : c14 (3 + 6) = E14 := hn14
  refine k_SX1 hc [.ref x, .int 99, .int 8] cw_L_174 dL_law_182 k14 hM hS hl.1 rfl rfl ⟨by omega, by omega⟩ ⟨by omega, by omega⟩ (Nat.le_of_ble_eq_true rfl) (fun H locs hM hS => ?_)
  refine lv_iload_n hx hb dL_law_185 rfl (lv_at hl 0 rfl) ?_
  refine lv_icmp_eq (tgt := 191) hx hb dL_law_186 (by decide) (fun c_186 => ?_) (fun c_186 => absurd c_186 (by decide))
  refine lv_iinc (v := 4) (lv' := [(2, .int 4), (1, .ref x), (0, .ref (gSb g))]) hx hb dL_law_191 hl (k := 0) rfl (by decide) (by decide) rfl (fun ls hl => ?_)
  refine lv_goto (tgt := 168) hx hb dL_law_194 (by decide) ?_
  refine lv_iload_n hx hb dL_law_168 rfl (lv_at hl 0 rfl) ?_
  refine lv_iconst (v := 4) hx hb dL_law_169 (by decide) ?_
  refine lv_icmp_ge (tgt := 197) hx hb dL_law_170 (by decide) (fun c_170 => ?_) (fun c_170 => absurd c_170 (by decide))
  refine lv_iconst (v := 0) hx hb dL_law_197 (by decide) ?_
  refine lv_istore_n (lv' := [(2, .int 0), (1, .ref x), (0, .ref (gSb g))]) hx hb dL_law_198 rfl hl (by decide) rfl (fun ls hl => ?_)
  refine lv_iload_n hx hb dL_law_199 rfl (lv_at hl 0 rfl) ?_
  refine lv_iconst (v := 3) hx hb dL_law_200 (by decide) ?_
  refine lv_icmp_ge (tgt := 220) hx hb dL_law_201 (by decide) (fun c_201 => absurd c_201 (by decide)) (fun c_201 => ?_)
  refine lv_aload_n hx hb dL_law_204 rfl (lv_at hl 1 rfl) ?_
  have k15 := h_sheet l hlf g (putC g M x c14) x c14 ClsAt.put hE14.2.2.1.ok
  have r15 : asO (c14 0) = asO E15 := by rw [hE14.1]
  obtain ⟨q15, hE15, hn15, hh15⟩ := es_ok (w := 0) hE14 (r15.trans ok_16) (by omega)
  obtain ⟨c15, ec15⟩ : ∃ cX, s_sheet c14 = cX := ⟨_, rfl⟩
  rw [ec15, putC_putC, show v_sheet c14 = 0 from q15] at k15
  rw [show sO c14 (asO (c14 0)) = c15 from ec15] at hE15
  rw [show sO c14 (asO (c14 0)) = c15 from ec15] at hn15
  have hh15 : ∀ j, j < 8 → j ≠ 7 → c15 (3 + j) = c14 (3 + j) := fun j hj hn => by have q9 := hh15 j hj hn; rwa [show sO c14 (asO (c14 0)) = c15 from ec15] at q9
  clear ec15 q15 r15
  have hE15 : ES 0 8 E16 c15 := hE15
  have hi15_5 : c15 (3 + 5) = E13 := (hh15 5 (by omega) (by omega)).trans hi14_5
  have hi15_6 : c15 (3 + 6) = E14 := (hh15 6 (by omega) (by omega)).trans hi14_6
  have hi15_7 : c15 (3 + 7) = E15 := hn15
  refine k_SX1 hc [.ref x] cw_L_177 dL_law_205 k15 hM hS hl.1 rfl rfl ⟨by omega, by omega⟩ ⟨by omega, by omega⟩ (Nat.le_of_ble_eq_true rfl) (fun H locs hM hS => ?_)
  refine lv_iload_n hx hb dL_law_208 rfl (lv_at hl 0 rfl) ?_
  refine lv_icmp_eq (tgt := 214) hx hb dL_law_209 (by decide) (fun c_209 => ?_) (fun c_209 => absurd c_209 (by decide))
  refine lv_iinc (v := 1) (lv' := [(2, .int 1), (1, .ref x), (0, .ref (gSb g))]) hx hb dL_law_214 hl (k := 0) rfl (by decide) (by decide) rfl (fun ls hl => ?_)
  refine lv_goto (tgt := 199) hx hb dL_law_217 (by decide) ?_
  refine lv_iload_n hx hb dL_law_199 rfl (lv_at hl 0 rfl) ?_
  refine lv_iconst (v := 3) hx hb dL_law_200 (by decide) ?_
  refine lv_icmp_ge (tgt := 220) hx hb dL_law_201 (by decide) (fun c_201 => absurd c_201 (by decide)) (fun c_201 => ?_)
  refine lv_aload_n hx hb dL_law_204 rfl (lv_at hl 1 rfl) ?_
  have k16 := h_sheet l hlf g (putC g M x c15) x c15 ClsAt.put hE15.2.2.1.ok
  have r16 : asO (c15 0) = asO E16 := by rw [hE15.1]
  obtain ⟨q16, hE16, hn16, hh16⟩ := es_ok (w := 1) hE15 (r16.trans ok_17) (by omega)
  obtain ⟨c16, ec16⟩ : ∃ cX, s_sheet c15 = cX := ⟨_, rfl⟩
  rw [ec16, putC_putC, show v_sheet c15 = 1 from q16] at k16
  rw [show sO c15 (asO (c15 0)) = c16 from ec16] at hE16
  rw [show sO c15 (asO (c15 0)) = c16 from ec16] at hn16
  have hh16 : ∀ j, j < 8 → j ≠ 0 → c16 (3 + j) = c15 (3 + j) := fun j hj hn => by have q9 := hh16 j hj hn; rwa [show sO c15 (asO (c15 0)) = c16 from ec16] at q9
  clear ec16 q16 r16
  have hE16 : ES 1 8 E17 c16 := hE16
  have hi16_6 : c16 (3 + 6) = E14 := (hh16 6 (by omega) (by omega)).trans hi15_6
  have hi16_7 : c16 (3 + 7) = E15 := (hh16 7 (by omega) (by omega)).trans hi15_7
  have hi16_0 : c16 (3 + 0) = E16 := hn16
  refine k_SX1 hc [.ref x] cw_L_177 dL_law_205 k16 hM hS hl.1 rfl rfl ⟨by omega, by omega⟩ ⟨by omega, by omega⟩ (Nat.le_of_ble_eq_true rfl) (fun H locs hM hS => ?_)
  refine lv_iload_n hx hb dL_law_208 rfl (lv_at hl 0 rfl) ?_
  refine lv_icmp_eq (tgt := 214) hx hb dL_law_209 (by decide) (fun c_209 => ?_) (fun c_209 => absurd c_209 (by decide))
  refine lv_iinc (v := 2) (lv' := [(2, .int 2), (1, .ref x), (0, .ref (gSb g))]) hx hb dL_law_214 hl (k := 0) rfl (by decide) (by decide) rfl (fun ls hl => ?_)
  refine lv_goto (tgt := 199) hx hb dL_law_217 (by decide) ?_
  refine lv_iload_n hx hb dL_law_199 rfl (lv_at hl 0 rfl) ?_
  refine lv_iconst (v := 3) hx hb dL_law_200 (by decide) ?_
  refine lv_icmp_ge (tgt := 220) hx hb dL_law_201 (by decide) (fun c_201 => absurd c_201 (by decide)) (fun c_201 => ?_)
  refine lv_aload_n hx hb dL_law_204 rfl (lv_at hl 1 rfl) ?_
  have k17 := h_sheet l hlf g (putC g M x c16) x c16 ClsAt.put hE16.2.2.1.ok
  have r17 : asO (c16 0) = asO E17 := by rw [hE16.1]
  obtain ⟨q17, hE17, hn17, hh17⟩ := es_ok (w := 2) hE16 (r17.trans ok_18) (by omega)
  obtain ⟨c17, ec17⟩ : ∃ cX, s_sheet c16 = cX := ⟨_, rfl⟩
  rw [ec17, putC_putC, show v_sheet c16 = 2 from q17] at k17
  rw [show sO c16 (asO (c16 0)) = c17 from ec17] at hE17
  rw [show sO c16 (asO (c16 0)) = c17 from ec17] at hn17
  have hh17 : ∀ j, j < 8 → j ≠ 1 → c17 (3 + j) = c16 (3 + j) := fun j hj hn => by have q9 := hh17 j hj hn; rwa [show sO c16 (asO (c16 0)) = c17 from ec17] at q9
  clear ec17 q17 r17
  have hE17 : ES 2 8 E18 c17 := hE17
  have hi17_7 : c17 (3 + 7) = E15 := (hh17 7 (by omega) (by omega)).trans hi16_7
  have hi17_0 : c17 (3 + 0) = E16 := (hh17 0 (by omega) (by omega)).trans hi16_0
  have hi17_1 : c17 (3 + 1) = E17 := hn17
  refine k_SX1 hc [.ref x] cw_L_177 dL_law_205 k17 hM hS hl.1 rfl rfl ⟨by omega, by omega⟩ ⟨by omega, by omega⟩ (Nat.le_of_ble_eq_true rfl) (fun H locs hM hS => ?_)
  refine lv_iload_n hx hb dL_law_208 rfl (lv_at hl 0 rfl) ?_
  refine lv_icmp_eq (tgt := 214) hx hb dL_law_209 (by decide) (fun c_209 => ?_) (fun c_209 => absurd c_209 (by decide))
  refine lv_iinc (v := 3) (lv' := [(2, .int 3), (1, .ref x), (0, .ref (gSb g))]) hx hb dL_law_214 hl (k := 0) rfl (by decide) (by decide) rfl (fun ls hl => ?_)
  refine lv_goto (tgt := 199) hx hb dL_law_217 (by decide) ?_
  refine lv_iload_n hx hb dL_law_199 rfl (lv_at hl 0 rfl) ?_
  refine lv_iconst (v := 3) hx hb dL_law_200 (by decide) ?_
  refine lv_icmp_ge (tgt := 220) hx hb dL_law_201 (by decide) (fun c_201 => ?_) (fun c_201 => absurd c_201 (by decide))
  refine lv_iconst (v := 0) hx hb dL_law_220 (by decide) ?_
  refine lv_istore_n (lv' := [(2, .int 0), (1, .ref x), (0, .ref (gSb g))]) hx hb dL_law_221 rfl hl (by decide) rfl (fun ls hl => ?_)
  refine lv_iload_n hx hb dL_law_222 rfl (lv_at hl 0 rfl) ?_
  refine lv_bipush (v := 6) hx hb dL_law_223 (by decide) ?_
  refine lv_icmp_ge (tgt := 246) hx hb dL_law_225 (by decide) (fun c_225 => absurd c_225 (by decide)) (fun c_225 => ?_)
  refine lv_aload_n hx hb dL_law_228 rfl (lv_at hl 1 rfl) ?_
  refine lv_bipush (v := 95) hx hb dL_law_229 (by decide) ?_
  have k18 := h_camel l hlf g (putC g M x c17) x c17 95 ClsAt.put hE17.2.2.1.ok
  have r18 : caO (c17 0) 95 = caO E18 95 := by rw [hE17.1]
  obtain ⟨q18, hE18, hn18, hh18⟩ := es_ok (w := 0) hE17 (r18.trans ok_19) (by omega)
  obtain ⟨c18, ec18⟩ : ∃ cX, s_camel c17 95 = cX := ⟨_, rfl⟩
  rw [ec18, putC_putC, show v_camel c17 95 = 0 from q18] at k18
  rw [show sO c17 (caO (c17 0) 95) = c18 from ec18] at hE18
  rw [show sO c17 (caO (c17 0) 95) = c18 from ec18] at hn18
  have hh18 : ∀ j, j < 8 → j ≠ 2 → c18 (3 + j) = c17 (3 + j) := fun j hj hn => by have q9 := hh18 j hj hn; rwa [show sO c17 (caO (c17 0) 95) = c18 from ec18] at q9
  clear ec18 q18 r18
  have hE18 : ES 3 8 E19 c18 := hE18
  have hi18_0 : c18 (3 + 0) = E16 := (hh18 0 (by omega) (by omega)).trans hi17_0
  have hi18_1 : c18 (3 + 1) = E17 := (hh18 1 (by omega) (by omega)).trans hi17_1
  have hi18_2 : c18 (3 + 2) = E18 := hn18
  refine k_SX1 hc [.ref x, .int 95] cw_L_179 dL_law_231 k18 hM hS hl.1 rfl rfl ⟨by omega, by omega⟩ ⟨by omega, by omega⟩ (Nat.le_of_ble_eq_true rfl) (fun H locs hM hS => ?_)
  refine lv_iload_n hx hb dL_law_234 rfl (lv_at hl 0 rfl) ?_
  refine lv_icmp_eq (tgt := 240) hx hb dL_law_235 (by decide) (fun c_235 => ?_) (fun c_235 => absurd c_235 (by decide))
  refine lv_iinc (v := 1) (lv' := [(2, .int 1), (1, .ref x), (0, .ref (gSb g))]) hx hb dL_law_240 hl (k := 0) rfl (by decide) (by decide) rfl (fun ls hl => ?_)
  refine lv_goto (tgt := 222) hx hb dL_law_243 (by decide) ?_
  refine lv_iload_n hx hb dL_law_222 rfl (lv_at hl 0 rfl) ?_
  refine lv_bipush (v := 6) hx hb dL_law_223 (by decide) ?_
  refine lv_icmp_ge (tgt := 246) hx hb dL_law_225 (by decide) (fun c_225 => absurd c_225 (by decide)) (fun c_225 => ?_)
  refine lv_aload_n hx hb dL_law_228 rfl (lv_at hl 1 rfl) ?_
  refine lv_bipush (v := 95) hx hb dL_law_229 (by decide) ?_
  have k19 := h_camel l hlf g (putC g M x c18) x c18 95 ClsAt.put hE18.2.2.1.ok
  have r19 : caO (c18 0) 95 = caO E19 95 := by rw [hE18.1]
  obtain ⟨q19, hE19, hn19, hh19⟩ := es_ok (w := 1) hE18 (r19.trans ok_20) (by omega)
  obtain ⟨c19, ec19⟩ : ∃ cX, s_camel c18 95 = cX := ⟨_, rfl⟩
  rw [ec19, putC_putC, show v_camel c18 95 = 1 from q19] at k19
  rw [show sO c18 (caO (c18 0) 95) = c19 from ec19] at hE19
  rw [show sO c18 (caO (c18 0) 95) = c19 from ec19] at hn19
  have hh19 : ∀ j, j < 8 → j ≠ 3 → c19 (3 + j) = c18 (3 + j) := fun j hj hn => by have q9 := hh19 j hj hn; rwa [show sO c18 (caO (c18 0) 95) = c19 from ec19] at q9
  clear ec19 q19 r19
  have hE19 : ES 4 8 E20 c19 := hE19
  have hi19_1 : c19 (3 + 1) = E17 := (hh19 1 (by omega) (by omega)).trans hi18_1
  have hi19_2 : c19 (3 + 2) = E18 := (hh19 2 (by omega) (by omega)).trans hi18_2
  have hi19_3 : c19 (3 + 3) = E19 := hn19
  refine k_SX1 hc [.ref x, .int 95] cw_L_179 dL_law_231 k19 hM hS hl.1 rfl rfl ⟨by omega, by omega⟩ ⟨by omega, by omega⟩ (Nat.le_of_ble_eq_true rfl) (fun H locs hM hS => ?_)
  refine lv_iload_n hx hb dL_law_234 rfl (lv_at hl 0 rfl) ?_
  refine lv_icmp_eq (tgt := 240) hx hb dL_law_235 (by decide) (fun c_235 => ?_) (fun c_235 => absurd c_235 (by decide))
  refine lv_iinc (v := 2) (lv' := [(2, .int 2), (1, .ref x), (0, .ref (gSb g))]) hx hb dL_law_240 hl (k := 0) rfl (by decide) (by decide) rfl (fun ls hl => ?_)
  refine lv_goto (tgt := 222) hx hb dL_law_243 (by decide) ?_
  refine lv_iload_n hx hb dL_law_222 rfl (lv_at hl 0 rfl) ?_
  refine lv_bipush (v := 6) hx hb dL_law_223 (by decide) ?_
  refine lv_icmp_ge (tgt := 246) hx hb dL_law_225 (by decide) (fun c_225 => absurd c_225 (by decide)) (fun c_225 => ?_)
  refine lv_aload_n hx hb dL_law_228 rfl (lv_at hl 1 rfl) ?_
  refine lv_bipush (v := 95) hx hb dL_law_229 (by decide) ?_
  have k20 := h_camel l hlf g (putC g M x c19) x c19 95 ClsAt.put hE19.2.2.1.ok
  have r20 : caO (c19 0) 95 = caO E20 95 := by rw [hE19.1]
  obtain ⟨q20, hE20, hn20, hh20⟩ := es_ok (w := 2) hE19 (r20.trans ok_21) (by omega)
  obtain ⟨c20, ec20⟩ : ∃ cX, s_camel c19 95 = cX := ⟨_, rfl⟩
  rw [ec20, putC_putC, show v_camel c19 95 = 2 from q20] at k20
  rw [show sO c19 (caO (c19 0) 95) = c20 from ec20] at hE20
  rw [show sO c19 (caO (c19 0) 95) = c20 from ec20] at hn20
  have hh20 : ∀ j, j < 8 → j ≠ 4 → c20 (3 + j) = c19 (3 + j) := fun j hj hn => by have q9 := hh20 j hj hn; rwa [show sO c19 (caO (c19 0) 95) = c20 from ec20] at q9
  clear ec20 q20 r20
  have hE20 : ES 5 8 E21 c20 := hE20
  have hi20_2 : c20 (3 + 2) = E18 := (hh20 2 (by omega) (by omega)).trans hi19_2
  have hi20_3 : c20 (3 + 3) = E19 := (hh20 3 (by omega) (by omega)).trans hi19_3
  have hi20_4 : c20 (3 + 4) = E20 := hn20
  refine k_SX1 hc [.ref x, .int 95] cw_L_179 dL_law_231 k20 hM hS hl.1 rfl rfl ⟨by omega, by omega⟩ ⟨by omega, by omega⟩ (Nat.le_of_ble_eq_true rfl) (fun H locs hM hS => ?_)
  refine lv_iload_n hx hb dL_law_234 rfl (lv_at hl 0 rfl) ?_
  refine lv_icmp_eq (tgt := 240) hx hb dL_law_235 (by decide) (fun c_235 => ?_) (fun c_235 => absurd c_235 (by decide))
  refine lv_iinc (v := 3) (lv' := [(2, .int 3), (1, .ref x), (0, .ref (gSb g))]) hx hb dL_law_240 hl (k := 0) rfl (by decide) (by decide) rfl (fun ls hl => ?_)
  refine lv_goto (tgt := 222) hx hb dL_law_243 (by decide) ?_
  refine lv_iload_n hx hb dL_law_222 rfl (lv_at hl 0 rfl) ?_
  refine lv_bipush (v := 6) hx hb dL_law_223 (by decide) ?_
  refine lv_icmp_ge (tgt := 246) hx hb dL_law_225 (by decide) (fun c_225 => absurd c_225 (by decide)) (fun c_225 => ?_)
  refine lv_aload_n hx hb dL_law_228 rfl (lv_at hl 1 rfl) ?_
  refine lv_bipush (v := 95) hx hb dL_law_229 (by decide) ?_
  have k21 := h_camel l hlf g (putC g M x c20) x c20 95 ClsAt.put hE20.2.2.1.ok
  have r21 : caO (c20 0) 95 = caO E21 95 := by rw [hE20.1]
  obtain ⟨q21, hE21, hn21, hh21⟩ := es_ok (w := 3) hE20 (r21.trans ok_22) (by omega)
  obtain ⟨c21, ec21⟩ : ∃ cX, s_camel c20 95 = cX := ⟨_, rfl⟩
  rw [ec21, putC_putC, show v_camel c20 95 = 3 from q21] at k21
  rw [show sO c20 (caO (c20 0) 95) = c21 from ec21] at hE21
  rw [show sO c20 (caO (c20 0) 95) = c21 from ec21] at hn21
  have hh21 : ∀ j, j < 8 → j ≠ 5 → c21 (3 + j) = c20 (3 + j) := fun j hj hn => by have q9 := hh21 j hj hn; rwa [show sO c20 (caO (c20 0) 95) = c21 from ec21] at q9
  clear ec21 q21 r21
  have hE21 : ES 6 8 E22 c21 := hE21
  have hi21_3 : c21 (3 + 3) = E19 := (hh21 3 (by omega) (by omega)).trans hi20_3
  have hi21_4 : c21 (3 + 4) = E20 := (hh21 4 (by omega) (by omega)).trans hi20_4
  have hi21_5 : c21 (3 + 5) = E21 := hn21
  refine k_SX1 hc [.ref x, .int 95] cw_L_179 dL_law_231 k21 hM hS hl.1 rfl rfl ⟨by omega, by omega⟩ ⟨by omega, by omega⟩ (Nat.le_of_ble_eq_true rfl) (fun H locs hM hS => ?_)
  refine lv_iload_n hx hb dL_law_234 rfl (lv_at hl 0 rfl) ?_
  refine lv_icmp_eq (tgt := 240) hx hb dL_law_235 (by decide) (fun c_235 => ?_) (fun c_235 => absurd c_235 (by decide))
  refine lv_iinc (v := 4) (lv' := [(2, .int 4), (1, .ref x), (0, .ref (gSb g))]) hx hb dL_law_240 hl (k := 0) rfl (by decide) (by decide) rfl (fun ls hl => ?_)
  refine lv_goto (tgt := 222) hx hb dL_law_243 (by decide) ?_
  refine lv_iload_n hx hb dL_law_222 rfl (lv_at hl 0 rfl) ?_
  refine lv_bipush (v := 6) hx hb dL_law_223 (by decide) ?_
  refine lv_icmp_ge (tgt := 246) hx hb dL_law_225 (by decide) (fun c_225 => absurd c_225 (by decide)) (fun c_225 => ?_)
  refine lv_aload_n hx hb dL_law_228 rfl (lv_at hl 1 rfl) ?_
  refine lv_bipush (v := 95) hx hb dL_law_229 (by decide) ?_
  have k22 := h_camel l hlf g (putC g M x c21) x c21 95 ClsAt.put hE21.2.2.1.ok
  have r22 : caO (c21 0) 95 = caO E22 95 := by rw [hE21.1]
  obtain ⟨q22, hE22, hn22, hh22⟩ := es_ok (w := 4) hE21 (r22.trans ok_23) (by omega)
  obtain ⟨c22, ec22⟩ : ∃ cX, s_camel c21 95 = cX := ⟨_, rfl⟩
  rw [ec22, putC_putC, show v_camel c21 95 = 4 from q22] at k22
  rw [show sO c21 (caO (c21 0) 95) = c22 from ec22] at hE22
  rw [show sO c21 (caO (c21 0) 95) = c22 from ec22] at hn22
  have hh22 : ∀ j, j < 8 → j ≠ 6 → c22 (3 + j) = c21 (3 + j) := fun j hj hn => by have q9 := hh22 j hj hn; rwa [show sO c21 (caO (c21 0) 95) = c22 from ec22] at q9
  clear ec22 q22 r22
  have hE22 : ES 7 8 E23 c22 := hE22
  have hi22_4 : c22 (3 + 4) = E20 := (hh22 4 (by omega) (by omega)).trans hi21_4
  have hi22_5 : c22 (3 + 5) = E21 := (hh22 5 (by omega) (by omega)).trans hi21_5
  have hi22_6 : c22 (3 + 6) = E22 := hn22
  refine k_SX1 hc [.ref x, .int 95] cw_L_179 dL_law_231 k22 hM hS hl.1 rfl rfl ⟨by omega, by omega⟩ ⟨by omega, by omega⟩ (Nat.le_of_ble_eq_true rfl) (fun H locs hM hS => ?_)
  refine lv_iload_n hx hb dL_law_234 rfl (lv_at hl 0 rfl) ?_
  refine lv_icmp_eq (tgt := 240) hx hb dL_law_235 (by decide) (fun c_235 => ?_) (fun c_235 => absurd c_235 (by decide))
  refine lv_iinc (v := 5) (lv' := [(2, .int 5), (1, .ref x), (0, .ref (gSb g))]) hx hb dL_law_240 hl (k := 0) rfl (by decide) (by decide) rfl (fun ls hl => ?_)
  refine lv_goto (tgt := 222) hx hb dL_law_243 (by decide) ?_
  refine lv_iload_n hx hb dL_law_222 rfl (lv_at hl 0 rfl) ?_
  refine lv_bipush (v := 6) hx hb dL_law_223 (by decide) ?_
  refine lv_icmp_ge (tgt := 246) hx hb dL_law_225 (by decide) (fun c_225 => absurd c_225 (by decide)) (fun c_225 => ?_)
  refine lv_aload_n hx hb dL_law_228 rfl (lv_at hl 1 rfl) ?_
  refine lv_bipush (v := 95) hx hb dL_law_229 (by decide) ?_
  have k23 := h_camel l hlf g (putC g M x c22) x c22 95 ClsAt.put hE22.2.2.1.ok
  have r23 : caO (c22 0) 95 = caO E23 95 := by rw [hE22.1]
  obtain ⟨q23, hE23, hn23, hh23⟩ := es_ok (w := 5) hE22 (r23.trans ok_24) (by omega)
  obtain ⟨c23, ec23⟩ : ∃ cX, s_camel c22 95 = cX := ⟨_, rfl⟩
  rw [ec23, putC_putC, show v_camel c22 95 = 5 from q23] at k23
  rw [show sO c22 (caO (c22 0) 95) = c23 from ec23] at hE23
  rw [show sO c22 (caO (c22 0) 95) = c23 from ec23] at hn23
  have hh23 : ∀ j, j < 8 → j ≠ 7 → c23 (3 + j) = c22 (3 + j) := fun j hj hn => by have q9 := hh23 j hj hn; rwa [show sO c22 (caO (c22 0) 95) = c23 from ec23] at q9
  clear ec23 q23 r23
  have hE23 : ES 0 8 E24 c23 := hE23
  have hi23_5 : c23 (3 + 5) = E21 := (hh23 5 (by omega) (by omega)).trans hi22_5
  have hi23_6 : c23 (3 + 6) = E22 := (hh23 6 (by omega) (by omega)).trans hi22_6
  have hi23_7 : c23 (3 + 7) = E23 := hn23
  refine k_SX1 hc [.ref x, .int 95] cw_L_179 dL_law_231 k23 hM hS hl.1 rfl rfl ⟨by omega, by omega⟩ ⟨by omega, by omega⟩ (Nat.le_of_ble_eq_true rfl) (fun H locs hM hS => ?_)
  refine lv_iload_n hx hb dL_law_234 rfl (lv_at hl 0 rfl) ?_
  refine lv_icmp_eq (tgt := 240) hx hb dL_law_235 (by decide) (fun c_235 => ?_) (fun c_235 => absurd c_235 (by decide))
  refine lv_iinc (v := 6) (lv' := [(2, .int 6), (1, .ref x), (0, .ref (gSb g))]) hx hb dL_law_240 hl (k := 0) rfl (by decide) (by decide) rfl (fun ls hl => ?_)
  refine lv_goto (tgt := 222) hx hb dL_law_243 (by decide) ?_
  refine lv_iload_n hx hb dL_law_222 rfl (lv_at hl 0 rfl) ?_
  refine lv_bipush (v := 6) hx hb dL_law_223 (by decide) ?_
  refine lv_icmp_ge (tgt := 246) hx hb dL_law_225 (by decide) (fun c_225 => ?_) (fun c_225 => absurd c_225 (by decide))
  exact kk c23 H locs ls hE23 hi23_6 hi23_7 hM hS (lv_sub hl [1, 2] rfl)
end ER_1
section ER_2
variable {p : Program} {l : Launch} {e : Env} {R : Room} {s : State} {m : MethodId} {args : Array Value} {below : List Frame} {meth : Method} {c : Code} {H : Heap} {locs : List Loc} {cells slots : Nat} {Q : State → Prop}
variable {ls : Array Slot} {g : GC} {M : HM} {x : Nat}
set_option maxHeartbeats 4000000 in
set_option maxRecDepth 100000 in
theorem er_2 (hc : Cx g p l s m args meth c cL_law 11 RL) (hlf : l.stackTraces = false) (hfr : 20 ≤ R.frames) (hlo : 1300 ≤ R.locals) {c0 : CS} (hE0 : ES 0 8 E24 c0) (hi0_6 : c0 (3 + 6) = E22) (hi0_7 : c0 (3 + 7) = E23) (hce : cells + 2000 ≤ R.cells) (hse : slots + 12000 ≤ R.slots) (hM : hR g (putC g M x c0) H) (hS : va_S (gA g) s.heap H locs) (hl : lv_has ls 11 [(1, .ref x), (0, .ref (gSb g))])
    (kk : ∀ (c9 : CS) (H : Heap) (locs : List Loc) (ls : Array Slot), ES 2 8 E26 c9 → c9 (3 + 0) = E24 → c9 (3 + 1) = E25 → hR g (putC g M x c9) H → va_S (gA g) s.heap H locs → lv_has ls 11 [(1, .ref x), (0, .ref (gSb g))] → W p l e R s m args below meth c H locs (cells + 55) (slots + 330) Q (F0 m 393 ls [])) : W p l e R s m args below meth c H locs cells slots Q (F0 m 246 ls []) := by
  have hx := hc.1
  have hb := hc.2.1
  refine lv_aload_n hx hb dL_law_246 rfl (lv_at hl 0 rfl) ?_
  refine lv_iconst (v := 5) hx hb dL_law_247 (by decide) ?_
  have k1 := h_stake l hlf g (putC g M x c0) x c0 5 ClsAt.put hE0.2.2.1.ok
  have r1 : dsO (c0 0) 5 = dsO E24 5 := by rw [hE0.1]
  obtain ⟨q1, hE1, x1, y1, z1, hh1⟩ := es_no hE0 (r1.trans no_24_stake)
  obtain ⟨c1, ec1⟩ : ∃ cX, s_stake c0 5 = cX := ⟨_, rfl⟩
  rw [ec1, putC_putC, show v_stake c0 5 = (-1001) from q1] at k1
  rw [show sO c0 (dsO (c0 0) 5) = c1 from ec1] at hE1
  rw [show sO c0 (dsO (c0 0) 5) = c1 from ec1] at x1
  rw [show sO c0 (dsO (c0 0) 5) = c1 from ec1] at y1
  rw [show sO c0 (dsO (c0 0) 5) = c1 from ec1] at z1
  have hh1 : ∀ j, j < 8 → c1 (3 + j) = c0 (3 + j) := fun j hj => by have q9 := hh1 j hj; rwa [show sO c0 (dsO (c0 0) 5) = c1 from ec1] at q9
  clear ec1 q1 r1
  have hi1_6 : c1 (3 + 6) = E22 := (hh1 6 (by omega)).trans hi0_6
  have hi1_7 : c1 (3 + 7) = E23 := (hh1 7 (by omega)).trans hi0_7
  refine k_SX1 hc [.ref x, .int 5] cw_L_172 dL_law_248 k1 hM hS hl.1 rfl rfl ⟨by omega, by omega⟩ ⟨by omega, by omega⟩ (Nat.le_of_ble_eq_true rfl) (fun H locs hM hS => ?_)
  refine lv_sipush (v := (-1001)) hx hb dL_law_251 (by decide) ?_
  refine lv_icmp_ne (tgt := 391) hx hb dL_law_254 (by decide) (fun c_254 => absurd c_254 (by decide)) (fun c_254 => ?_)
  refine lv_aload_n hx hb dL_law_257 rfl (lv_at hl 0 rfl) ?_
  refine lv_iconst (v := 2) hx hb dL_law_258 (by decide) ?_
  refine lv_bipush (v := 10) hx hb dL_law_259 (by decide) ?_
  refine lv_iconst (v := 0) hx hb dL_law_261 (by decide) ?_
  have k_is := c_L_is l hlf g (putC g M x c1) x c1 2 10 0 ClsAt.put
  rw [show v_is c1 2 10 0 = 1 from is_1 (by decide) x1 y1 z1] at k_is
  refine k_S1 hc [.ref x, .int 2, .int 10, .int 0] cw_L_282 dL_law_262 k_is hM hS hl.1 rfl rfl ⟨by omega, by omega⟩ ⟨by omega, by omega⟩ (Nat.le_of_ble_eq_true rfl) (fun H locs hM hS => ?_)
  refine lv_if_eq (tgt := 391) hx hb dL_law_265 (by decide) (fun c_265 => absurd c_265 (by decide)) (fun c_265 => ?_)
  refine lv_aload_n hx hb dL_law_268 rfl (lv_at hl 0 rfl) ?_
  refine lv_iconst (v := 0) hx hb dL_law_269 (by decide) ?_
  refine lv_iconst (v := 1) hx hb dL_law_270 (by decide) ?_
  have k2 := h_post l hlf g (putC g M x c1) x c1 0 1 ClsAt.put hE1.2.2.1.ok
  have r2 : spO (c1 0) 0 1 = spO E24 0 1 := by rw [hE1.1]
  obtain ⟨q2, hE2, x2, y2, z2, hh2⟩ := es_no hE1 (r2.trans no_24_post)
  obtain ⟨c2, ec2⟩ : ∃ cX, s_post c1 0 1 = cX := ⟨_, rfl⟩
  rw [ec2, putC_putC, show v_post c1 0 1 = (-1001) from q2] at k2
  rw [show sO c1 (spO (c1 0) 0 1) = c2 from ec2] at hE2
  rw [show sO c1 (spO (c1 0) 0 1) = c2 from ec2] at x2
  rw [show sO c1 (spO (c1 0) 0 1) = c2 from ec2] at y2
  rw [show sO c1 (spO (c1 0) 0 1) = c2 from ec2] at z2
  have hh2 : ∀ j, j < 8 → c2 (3 + j) = c1 (3 + j) := fun j hj => by have q9 := hh2 j hj; rwa [show sO c1 (spO (c1 0) 0 1) = c2 from ec2] at q9
  clear ec2 q2 r2
  have hi2_6 : c2 (3 + 6) = E22 := (hh2 6 (by omega)).trans hi1_6
  have hi2_7 : c2 (3 + 7) = E23 := (hh2 7 (by omega)).trans hi1_7
  refine k_SX1 hc [.ref x, .int 0, .int 1] cw_L_174 dL_law_271 k2 hM hS hl.1 rfl rfl ⟨by omega, by omega⟩ ⟨by omega, by omega⟩ (Nat.le_of_ble_eq_true rfl) (fun H locs hM hS => ?_)
  refine lv_sipush (v := (-1001)) hx hb dL_law_274 (by decide) ?_
  refine lv_icmp_ne (tgt := 391) hx hb dL_law_277 (by decide) (fun c_277 => absurd c_277 (by decide)) (fun c_277 => ?_)
  refine lv_aload_n hx hb dL_law_280 rfl (lv_at hl 0 rfl) ?_
  refine lv_iconst (v := 2) hx hb dL_law_281 (by decide) ?_
  refine lv_iconst (v := 4) hx hb dL_law_282 (by decide) ?_
  refine lv_iconst (v := 0) hx hb dL_law_283 (by decide) ?_
  have k_is := c_L_is l hlf g (putC g M x c2) x c2 2 4 0 ClsAt.put
  rw [show v_is c2 2 4 0 = 1 from is_1 (by decide) x2 y2 z2] at k_is
  refine k_S1 hc [.ref x, .int 2, .int 4, .int 0] cw_L_282 dL_law_284 k_is hM hS hl.1 rfl rfl ⟨by omega, by omega⟩ ⟨by omega, by omega⟩ (Nat.le_of_ble_eq_true rfl) (fun H locs hM hS => ?_)
  refine lv_if_eq (tgt := 391) hx hb dL_law_287 (by decide) (fun c_287 => absurd c_287 (by decide)) (fun c_287 => ?_)
  refine lv_aload_n hx hb dL_law_290 rfl (lv_at hl 0 rfl) ?_
  have k3 := h_sheet l hlf g (putC g M x c2) x c2 ClsAt.put hE2.2.2.1.ok
  have r3 : asO (c2 0) = asO E24 := by rw [hE2.1]
  obtain ⟨q3, hE3, x3, y3, z3, hh3⟩ := es_no hE2 (r3.trans no_24_sheet)
  obtain ⟨c3, ec3⟩ : ∃ cX, s_sheet c2 = cX := ⟨_, rfl⟩
  rw [ec3, putC_putC, show v_sheet c2 = (-1001) from q3] at k3
  rw [show sO c2 (asO (c2 0)) = c3 from ec3] at hE3
  rw [show sO c2 (asO (c2 0)) = c3 from ec3] at x3
  rw [show sO c2 (asO (c2 0)) = c3 from ec3] at y3
  rw [show sO c2 (asO (c2 0)) = c3 from ec3] at z3
  have hh3 : ∀ j, j < 8 → c3 (3 + j) = c2 (3 + j) := fun j hj => by have q9 := hh3 j hj; rwa [show sO c2 (asO (c2 0)) = c3 from ec3] at q9
  clear ec3 q3 r3
  have hi3_6 : c3 (3 + 6) = E22 := (hh3 6 (by omega)).trans hi2_6
  have hi3_7 : c3 (3 + 7) = E23 := (hh3 7 (by omega)).trans hi2_7
  refine k_SX1 hc [.ref x] cw_L_177 dL_law_291 k3 hM hS hl.1 rfl rfl ⟨by omega, by omega⟩ ⟨by omega, by omega⟩ (Nat.le_of_ble_eq_true rfl) (fun H locs hM hS => ?_)
  refine lv_sipush (v := (-1001)) hx hb dL_law_294 (by decide) ?_
  refine lv_icmp_ne (tgt := 391) hx hb dL_law_297 (by decide) (fun c_297 => absurd c_297 (by decide)) (fun c_297 => ?_)
  refine lv_aload_n hx hb dL_law_300 rfl (lv_at hl 0 rfl) ?_
  refine lv_iconst (v := 2) hx hb dL_law_301 (by decide) ?_
  refine lv_iconst (v := 3) hx hb dL_law_302 (by decide) ?_
  refine lv_iconst (v := 0) hx hb dL_law_303 (by decide) ?_
  have k_is := c_L_is l hlf g (putC g M x c3) x c3 2 3 0 ClsAt.put
  rw [show v_is c3 2 3 0 = 1 from is_1 (by decide) x3 y3 z3] at k_is
  refine k_S1 hc [.ref x, .int 2, .int 3, .int 0] cw_L_282 dL_law_304 k_is hM hS hl.1 rfl rfl ⟨by omega, by omega⟩ ⟨by omega, by omega⟩ (Nat.le_of_ble_eq_true rfl) (fun H locs hM hS => ?_)
  refine lv_if_eq (tgt := 391) hx hb dL_law_307 (by decide) (fun c_307 => absurd c_307 (by decide)) (fun c_307 => ?_)
  refine lv_aload_n hx hb dL_law_310 rfl (lv_at hl 0 rfl) ?_
  refine lv_iconst (v := 0) hx hb dL_law_311 (by decide) ?_
  have k4 := h_camel l hlf g (putC g M x c3) x c3 0 ClsAt.put hE3.2.2.1.ok
  have r4 : caO (c3 0) 0 = caO E24 0 := by rw [hE3.1]
  obtain ⟨q4, hE4, x4, y4, z4, hh4⟩ := es_no hE3 (r4.trans no_24_camel)
  obtain ⟨c4, ec4⟩ : ∃ cX, s_camel c3 0 = cX := ⟨_, rfl⟩
  rw [ec4, putC_putC, show v_camel c3 0 = (-1001) from q4] at k4
  rw [show sO c3 (caO (c3 0) 0) = c4 from ec4] at hE4
  rw [show sO c3 (caO (c3 0) 0) = c4 from ec4] at x4
  rw [show sO c3 (caO (c3 0) 0) = c4 from ec4] at y4
  rw [show sO c3 (caO (c3 0) 0) = c4 from ec4] at z4
  have hh4 : ∀ j, j < 8 → c4 (3 + j) = c3 (3 + j) := fun j hj => by have q9 := hh4 j hj; rwa [show sO c3 (caO (c3 0) 0) = c4 from ec4] at q9
  clear ec4 q4 r4
  have hi4_6 : c4 (3 + 6) = E22 := (hh4 6 (by omega)).trans hi3_6
  have hi4_7 : c4 (3 + 7) = E23 := (hh4 7 (by omega)).trans hi3_7
  refine k_SX1 hc [.ref x, .int 0] cw_L_179 dL_law_312 k4 hM hS hl.1 rfl rfl ⟨by omega, by omega⟩ ⟨by omega, by omega⟩ (Nat.le_of_ble_eq_true rfl) (fun H locs hM hS => ?_)
  refine lv_sipush (v := (-1001)) hx hb dL_law_315 (by decide) ?_
  refine lv_icmp_ne (tgt := 391) hx hb dL_law_318 (by decide) (fun c_318 => absurd c_318 (by decide)) (fun c_318 => ?_)
  refine lv_aload_n hx hb dL_law_321 rfl (lv_at hl 0 rfl) ?_
  refine lv_iconst (v := 2) hx hb dL_law_322 (by decide) ?_
  refine lv_bipush (v := 6) hx hb dL_law_323 (by decide) ?_
  refine lv_iconst (v := 0) hx hb dL_law_325 (by decide) ?_
  have k_is := c_L_is l hlf g (putC g M x c4) x c4 2 6 0 ClsAt.put
  rw [show v_is c4 2 6 0 = 1 from is_1 (by decide) x4 y4 z4] at k_is
  refine k_S1 hc [.ref x, .int 2, .int 6, .int 0] cw_L_282 dL_law_326 k_is hM hS hl.1 rfl rfl ⟨by omega, by omega⟩ ⟨by omega, by omega⟩ (Nat.le_of_ble_eq_true rfl) (fun H locs hM hS => ?_)
  refine lv_if_eq (tgt := 391) hx hb dL_law_329 (by decide) (fun c_329 => absurd c_329 (by decide)) (fun c_329 => ?_)
  refine lv_aload_n hx hb dL_law_332 rfl (lv_at hl 0 rfl) ?_
  refine lv_bipush (v := 15) hx hb dL_law_333 (by decide) ?_
  have k1 := h_account l hlf g (putC g M x c4) x c4 15 ClsAt.put
  rw [show v_account c4 15 = 8 from ac_v (k := 15) (by decide) _ (by show acV c4 (nI 15) = 8; unfold acV; rw [if_neg (by decide), if_neg (by decide), if_neg (by decide), if_neg (by decide), if_neg (by decide), if_neg (by decide), if_neg (by decide), if_neg (by decide), if_neg (by decide), if_neg (by decide), if_neg (by decide), if_neg (by decide), if_neg (by decide), if_neg (by decide), if_neg (by decide), if_pos (by decide)]; exact hE4.2.2.1.2.2.2)] at k1
  refine k_SX1 hc [.ref x, .int 15] cw_L_205 dL_law_335 k1 hM hS hl.1 rfl rfl ⟨by omega, by omega⟩ ⟨by omega, by omega⟩ (Nat.le_of_ble_eq_true rfl) (fun H locs hM hS => ?_)
  refine lv_bipush (v := 8) hx hb dL_law_338 (by decide) ?_
  refine lv_icmp_ne (tgt := 391) hx hb dL_law_340 (by decide) (fun c_340 => absurd c_340 (by decide)) (fun c_340 => ?_)
  refine lv_aload_n hx hb dL_law_343 rfl (lv_at hl 0 rfl) ?_
  refine lv_bipush (v := 100) hx hb dL_law_344 (by decide) ?_
  have k5 := h_water l hlf g (putC g M x c4) x c4 100 ClsAt.put hE4.2.2.1.ok
  have r5 : bwO (c4 0) 100 = bwO E24 100 := by rw [hE4.1]
  obtain ⟨q5, hE5, hn5, hh5⟩ := es_ok (w := 160) hE4 (r5.trans ok_25) (by omega)
  obtain ⟨c5, ec5⟩ : ∃ cX, s_water c4 100 = cX := ⟨_, rfl⟩
  rw [ec5, putC_putC, show v_water c4 100 = 160 from q5] at k5
  rw [show sO c4 (bwO (c4 0) 100) = c5 from ec5] at hE5
  rw [show sO c4 (bwO (c4 0) 100) = c5 from ec5] at hn5
  have hh5 : ∀ j, j < 8 → j ≠ 0 → c5 (3 + j) = c4 (3 + j) := fun j hj hn => by have q9 := hh5 j hj hn; rwa [show sO c4 (bwO (c4 0) 100) = c5 from ec5] at q9
  clear ec5 q5 r5
  have hE5 : ES 1 8 E25 c5 := hE5
  have hi5_6 : c5 (3 + 6) = E22 := (hh5 6 (by omega) (by omega)).trans hi4_6
  have hi5_7 : c5 (3 + 7) = E23 := (hh5 7 (by omega) (by omega)).trans hi4_7
  have hi5_0 : c5 (3 + 0) = E24 := hn5
  refine k_SX1 hc [.ref x, .int 100] cw_L_247 dL_law_346 k5 hM hS hl.1 rfl rfl ⟨by omega, by omega⟩ ⟨by omega, by omega⟩ (Nat.le_of_ble_eq_true rfl) (fun H locs hM hS => ?_)
  refine lv_sipush (v := 160) hx hb dL_law_349 (by decide) ?_
  refine lv_icmp_ne (tgt := 391) hx hb dL_law_352 (by decide) (fun c_352 => absurd c_352 (by decide)) (fun c_352 => ?_)
  refine lv_aload_n hx hb dL_law_355 rfl (lv_at hl 0 rfl) ?_
  refine lv_bipush (v := 41) hx hb dL_law_356 (by decide) ?_
  have k6 := h_water l hlf g (putC g M x c5) x c5 41 ClsAt.put hE5.2.2.1.ok
  have r6 : bwO (c5 0) 41 = bwO E25 41 := by rw [hE5.1]
  obtain ⟨q6, hE6, x6, y6, z6, hh6⟩ := es_no hE5 (r6.trans no_25_water)
  obtain ⟨c6, ec6⟩ : ∃ cX, s_water c5 41 = cX := ⟨_, rfl⟩
  rw [ec6, putC_putC, show v_water c5 41 = (-1001) from q6] at k6
  rw [show sO c5 (bwO (c5 0) 41) = c6 from ec6] at hE6
  rw [show sO c5 (bwO (c5 0) 41) = c6 from ec6] at x6
  rw [show sO c5 (bwO (c5 0) 41) = c6 from ec6] at y6
  rw [show sO c5 (bwO (c5 0) 41) = c6 from ec6] at z6
  have hh6 : ∀ j, j < 8 → c6 (3 + j) = c5 (3 + j) := fun j hj => by have q9 := hh6 j hj; rwa [show sO c5 (bwO (c5 0) 41) = c6 from ec6] at q9
  clear ec6 q6 r6
  have hi6_7 : c6 (3 + 7) = E23 := (hh6 7 (by omega)).trans hi5_7
  have hi6_0 : c6 (3 + 0) = E24 := (hh6 0 (by omega)).trans hi5_0
  refine k_SX1 hc [.ref x, .int 41] cw_L_247 dL_law_358 k6 hM hS hl.1 rfl rfl ⟨by omega, by omega⟩ ⟨by omega, by omega⟩ (Nat.le_of_ble_eq_true rfl) (fun H locs hM hS => ?_)
  refine lv_sipush (v := (-1001)) hx hb dL_law_361 (by decide) ?_
  refine lv_icmp_ne (tgt := 391) hx hb dL_law_364 (by decide) (fun c_364 => absurd c_364 (by decide)) (fun c_364 => ?_)
  refine lv_aload_n hx hb dL_law_367 rfl (lv_at hl 0 rfl) ?_
  refine lv_iconst (v := 2) hx hb dL_law_368 (by decide) ?_
  refine lv_sipush (v := 200) hx hb dL_law_369 (by decide) ?_
  refine lv_iconst (v := 0) hx hb dL_law_372 (by decide) ?_
  have k_is := c_L_is l hlf g (putC g M x c6) x c6 2 200 0 ClsAt.put
  rw [show v_is c6 2 200 0 = 1 from is_1 (by decide) x6 y6 z6] at k_is
  refine k_S1 hc [.ref x, .int 2, .int 200, .int 0] cw_L_282 dL_law_373 k_is hM hS hl.1 rfl rfl ⟨by omega, by omega⟩ ⟨by omega, by omega⟩ (Nat.le_of_ble_eq_true rfl) (fun H locs hM hS => ?_)
  refine lv_if_eq (tgt := 391) hx hb dL_law_376 (by decide) (fun c_376 => absurd c_376 (by decide)) (fun c_376 => ?_)
  refine lv_aload_n hx hb dL_law_379 rfl (lv_at hl 0 rfl) ?_
  refine lv_bipush (v := 40) hx hb dL_law_380 (by decide) ?_
  have k7 := h_water l hlf g (putC g M x c6) x c6 40 ClsAt.put hE6.2.2.1.ok
  have r7 : bwO (c6 0) 40 = bwO E25 40 := by rw [hE6.1]
  obtain ⟨q7, hE7, hn7, hh7⟩ := es_ok (w := 200) hE6 (r7.trans ok_26) (by omega)
  obtain ⟨c7, ec7⟩ : ∃ cX, s_water c6 40 = cX := ⟨_, rfl⟩
  rw [ec7, putC_putC, show v_water c6 40 = 200 from q7] at k7
  rw [show sO c6 (bwO (c6 0) 40) = c7 from ec7] at hE7
  rw [show sO c6 (bwO (c6 0) 40) = c7 from ec7] at hn7
  have hh7 : ∀ j, j < 8 → j ≠ 1 → c7 (3 + j) = c6 (3 + j) := fun j hj hn => by have q9 := hh7 j hj hn; rwa [show sO c6 (bwO (c6 0) 40) = c7 from ec7] at q9
  clear ec7 q7 r7
  have hE7 : ES 2 8 E26 c7 := hE7
  have hi7_7 : c7 (3 + 7) = E23 := (hh7 7 (by omega) (by omega)).trans hi6_7
  have hi7_0 : c7 (3 + 0) = E24 := (hh7 0 (by omega) (by omega)).trans hi6_0
  have hi7_1 : c7 (3 + 1) = E25 := hn7
  refine k_SX1 hc [.ref x, .int 40] cw_L_247 dL_law_382 k7 hM hS hl.1 rfl rfl ⟨by omega, by omega⟩ ⟨by omega, by omega⟩ (Nat.le_of_ble_eq_true rfl) (fun H locs hM hS => ?_)
  refine lv_sipush (v := 200) hx hb dL_law_385 (by decide) ?_
  refine lv_icmp_eq (tgt := 393) hx hb dL_law_388 (by decide) (fun c_388 => ?_) (fun c_388 => absurd c_388 (by decide))
  exact kk c7 H locs ls hE7 hi7_0 hi7_1 hM hS (lv_sub hl [0, 1] rfl)
end ER_2
section ER_3
variable {p : Program} {l : Launch} {e : Env} {R : Room} {s : State} {m : MethodId} {args : Array Value} {below : List Frame} {meth : Method} {c : Code} {H : Heap} {locs : List Loc} {cells slots : Nat} {Q : State → Prop}
variable {ls : Array Slot} {g : GC} {M : HM} {x : Nat}
set_option maxHeartbeats 4000000 in
set_option maxRecDepth 100000 in
theorem er_3 (hc : Cx g p l s m args meth c cL_law 11 RL) (hlf : l.stackTraces = false) (hfr : 20 ≤ R.frames) (hlo : 1300 ≤ R.locals) {c0 : CS} (hE0 : ES 2 8 E26 c0) (hi0_0 : c0 (3 + 0) = E24) (hi0_1 : c0 (3 + 1) = E25) (hce : cells + 2000 ≤ R.cells) (hse : slots + 12000 ≤ R.slots) (hM : hR g (putC g M x c0) H) (hS : va_S (gA g) s.heap H locs) (hl : lv_has ls 11 [(1, .ref x), (0, .ref (gSb g))])
    (kk : ∀ (c9 : CS) (H : Heap) (locs : List Loc) (ls : Array Slot), ES 7 8 E31 c9 → c9 (3 + 5) = E29 → c9 (3 + 6) = E30 → hR g (putC g M x c9) H → va_S (gA g) s.heap H locs → lv_has ls 11 [(1, .ref x), (0, .ref (gSb g))] → W p l e R s m args below meth c H locs (cells + 34) (slots + 204) Q (F0 m 491 ls [])) : W p l e R s m args below meth c H locs cells slots Q (F0 m 393 ls []) := by
  have hx := hc.1
  have hb := hc.2.1
  refine lv_iconst (v := 0) hx hb dL_law_393 (by decide) ?_
  refine lv_istore_n (lv' := [(2, .int 0), (1, .ref x), (0, .ref (gSb g))]) hx hb dL_law_394 rfl hl (by decide) rfl (fun ls hl => ?_)
  refine lv_iload_n hx hb dL_law_395 rfl (lv_at hl 0 rfl) ?_
  refine lv_iconst (v := 5) hx hb dL_law_396 (by decide) ?_
  refine lv_icmp_ge (tgt := 419) hx hb dL_law_397 (by decide) (fun c_397 => absurd c_397 (by decide)) (fun c_397 => ?_)
  refine lv_aload_n hx hb dL_law_400 rfl (lv_at hl 1 rfl) ?_
  refine lv_iload_n hx hb dL_law_401 rfl (lv_at hl 0 rfl) ?_
  have k1 := h_tie l hlf g (putC g M x c0) x c0 0 ClsAt.put hE0.2.2.1.ok
  have r1 : tiO (c0 0) 0 = tiO E26 0 := by rw [hE0.1]
  obtain ⟨q1, hE1, hn1, hh1⟩ := es_ok (w := 1) hE0 (r1.trans ok_27) (by omega)
  obtain ⟨c1, ec1⟩ : ∃ cX, s_tie c0 0 = cX := ⟨_, rfl⟩
  rw [ec1, putC_putC, show v_tie c0 0 = 1 from q1] at k1
  rw [show sO c0 (tiO (c0 0) 0) = c1 from ec1] at hE1
  rw [show sO c0 (tiO (c0 0) 0) = c1 from ec1] at hn1
  have hh1 : ∀ j, j < 8 → j ≠ 2 → c1 (3 + j) = c0 (3 + j) := fun j hj hn => by have q9 := hh1 j hj hn; rwa [show sO c0 (tiO (c0 0) 0) = c1 from ec1] at q9
  clear ec1 q1 r1
  have hE1 : ES 3 8 E27 c1 := hE1
  have hi1_0 : c1 (3 + 0) = E24 := (hh1 0 (by omega) (by omega)).trans hi0_0
  have hi1_1 : c1 (3 + 1) = E25 := (hh1 1 (by omega) (by omega)).trans hi0_1
  have hi1_2 : c1 (3 + 2) = E26 := hn1
  refine k_SX1 hc [.ref x, .int 0] cw_L_241 dL_law_402 k1 hM hS hl.1 rfl rfl ⟨by omega, by omega⟩ ⟨by omega, by omega⟩ (Nat.le_of_ble_eq_true rfl) (fun H locs hM hS => ?_)
  refine lv_iload_n hx hb dL_law_405 rfl (lv_at hl 0 rfl) ?_
  refine lv_iconst (v := 1) hx hb dL_law_406 (by decide) ?_
  refine lv_iadd hx hb dL_law_407 ?_
  rw [show ((0 : Int32) + 1) = 1 from by decide]
  refine lv_icmp_eq (tgt := 413) hx hb dL_law_408 (by decide) (fun c_408 => ?_) (fun c_408 => absurd c_408 (by decide))
  refine lv_iinc (v := 1) (lv' := [(2, .int 1), (1, .ref x), (0, .ref (gSb g))]) hx hb dL_law_413 hl (k := 0) rfl (by decide) (by decide) rfl (fun ls hl => ?_)
  refine lv_goto (tgt := 395) hx hb dL_law_416 (by decide) ?_
  refine lv_iload_n hx hb dL_law_395 rfl (lv_at hl 0 rfl) ?_
  refine lv_iconst (v := 5) hx hb dL_law_396 (by decide) ?_
  refine lv_icmp_ge (tgt := 419) hx hb dL_law_397 (by decide) (fun c_397 => absurd c_397 (by decide)) (fun c_397 => ?_)
  refine lv_aload_n hx hb dL_law_400 rfl (lv_at hl 1 rfl) ?_
  refine lv_iload_n hx hb dL_law_401 rfl (lv_at hl 0 rfl) ?_
  have k2 := h_tie l hlf g (putC g M x c1) x c1 1 ClsAt.put hE1.2.2.1.ok
  have r2 : tiO (c1 0) 1 = tiO E27 1 := by rw [hE1.1]
  obtain ⟨q2, hE2, hn2, hh2⟩ := es_ok (w := 2) hE1 (r2.trans ok_28) (by omega)
  obtain ⟨c2, ec2⟩ : ∃ cX, s_tie c1 1 = cX := ⟨_, rfl⟩
  rw [ec2, putC_putC, show v_tie c1 1 = 2 from q2] at k2
  rw [show sO c1 (tiO (c1 0) 1) = c2 from ec2] at hE2
  rw [show sO c1 (tiO (c1 0) 1) = c2 from ec2] at hn2
  have hh2 : ∀ j, j < 8 → j ≠ 3 → c2 (3 + j) = c1 (3 + j) := fun j hj hn => by have q9 := hh2 j hj hn; rwa [show sO c1 (tiO (c1 0) 1) = c2 from ec2] at q9
  clear ec2 q2 r2
  have hE2 : ES 4 8 E28 c2 := hE2
  have hi2_1 : c2 (3 + 1) = E25 := (hh2 1 (by omega) (by omega)).trans hi1_1
  have hi2_2 : c2 (3 + 2) = E26 := (hh2 2 (by omega) (by omega)).trans hi1_2
  have hi2_3 : c2 (3 + 3) = E27 := hn2
  refine k_SX1 hc [.ref x, .int 1] cw_L_241 dL_law_402 k2 hM hS hl.1 rfl rfl ⟨by omega, by omega⟩ ⟨by omega, by omega⟩ (Nat.le_of_ble_eq_true rfl) (fun H locs hM hS => ?_)
  refine lv_iload_n hx hb dL_law_405 rfl (lv_at hl 0 rfl) ?_
  refine lv_iconst (v := 1) hx hb dL_law_406 (by decide) ?_
  refine lv_iadd hx hb dL_law_407 ?_
  rw [show ((1 : Int32) + 1) = 2 from by decide]
  refine lv_icmp_eq (tgt := 413) hx hb dL_law_408 (by decide) (fun c_408 => ?_) (fun c_408 => absurd c_408 (by decide))
  refine lv_iinc (v := 2) (lv' := [(2, .int 2), (1, .ref x), (0, .ref (gSb g))]) hx hb dL_law_413 hl (k := 0) rfl (by decide) (by decide) rfl (fun ls hl => ?_)
  refine lv_goto (tgt := 395) hx hb dL_law_416 (by decide) ?_
  refine lv_iload_n hx hb dL_law_395 rfl (lv_at hl 0 rfl) ?_
  refine lv_iconst (v := 5) hx hb dL_law_396 (by decide) ?_
  refine lv_icmp_ge (tgt := 419) hx hb dL_law_397 (by decide) (fun c_397 => absurd c_397 (by decide)) (fun c_397 => ?_)
  refine lv_aload_n hx hb dL_law_400 rfl (lv_at hl 1 rfl) ?_
  refine lv_iload_n hx hb dL_law_401 rfl (lv_at hl 0 rfl) ?_
  have k3 := h_tie l hlf g (putC g M x c2) x c2 2 ClsAt.put hE2.2.2.1.ok
  have r3 : tiO (c2 0) 2 = tiO E28 2 := by rw [hE2.1]
  obtain ⟨q3, hE3, hn3, hh3⟩ := es_ok (w := 3) hE2 (r3.trans ok_29) (by omega)
  obtain ⟨c3, ec3⟩ : ∃ cX, s_tie c2 2 = cX := ⟨_, rfl⟩
  rw [ec3, putC_putC, show v_tie c2 2 = 3 from q3] at k3
  rw [show sO c2 (tiO (c2 0) 2) = c3 from ec3] at hE3
  rw [show sO c2 (tiO (c2 0) 2) = c3 from ec3] at hn3
  have hh3 : ∀ j, j < 8 → j ≠ 4 → c3 (3 + j) = c2 (3 + j) := fun j hj hn => by have q9 := hh3 j hj hn; rwa [show sO c2 (tiO (c2 0) 2) = c3 from ec3] at q9
  clear ec3 q3 r3
  have hE3 : ES 5 8 E29 c3 := hE3
  have hi3_2 : c3 (3 + 2) = E26 := (hh3 2 (by omega) (by omega)).trans hi2_2
  have hi3_3 : c3 (3 + 3) = E27 := (hh3 3 (by omega) (by omega)).trans hi2_3
  have hi3_4 : c3 (3 + 4) = E28 := hn3
  refine k_SX1 hc [.ref x, .int 2] cw_L_241 dL_law_402 k3 hM hS hl.1 rfl rfl ⟨by omega, by omega⟩ ⟨by omega, by omega⟩ (Nat.le_of_ble_eq_true rfl) (fun H locs hM hS => ?_)
  refine lv_iload_n hx hb dL_law_405 rfl (lv_at hl 0 rfl) ?_
  refine lv_iconst (v := 1) hx hb dL_law_406 (by decide) ?_
  refine lv_iadd hx hb dL_law_407 ?_
  rw [show ((2 : Int32) + 1) = 3 from by decide]
  refine lv_icmp_eq (tgt := 413) hx hb dL_law_408 (by decide) (fun c_408 => ?_) (fun c_408 => absurd c_408 (by decide))
  refine lv_iinc (v := 3) (lv' := [(2, .int 3), (1, .ref x), (0, .ref (gSb g))]) hx hb dL_law_413 hl (k := 0) rfl (by decide) (by decide) rfl (fun ls hl => ?_)
  refine lv_goto (tgt := 395) hx hb dL_law_416 (by decide) ?_
  refine lv_iload_n hx hb dL_law_395 rfl (lv_at hl 0 rfl) ?_
  refine lv_iconst (v := 5) hx hb dL_law_396 (by decide) ?_
  refine lv_icmp_ge (tgt := 419) hx hb dL_law_397 (by decide) (fun c_397 => absurd c_397 (by decide)) (fun c_397 => ?_)
  refine lv_aload_n hx hb dL_law_400 rfl (lv_at hl 1 rfl) ?_
  refine lv_iload_n hx hb dL_law_401 rfl (lv_at hl 0 rfl) ?_
  have k4 := h_tie l hlf g (putC g M x c3) x c3 3 ClsAt.put hE3.2.2.1.ok
  have r4 : tiO (c3 0) 3 = tiO E29 3 := by rw [hE3.1]
  obtain ⟨q4, hE4, hn4, hh4⟩ := es_ok (w := 4) hE3 (r4.trans ok_30) (by omega)
  obtain ⟨c4, ec4⟩ : ∃ cX, s_tie c3 3 = cX := ⟨_, rfl⟩
  rw [ec4, putC_putC, show v_tie c3 3 = 4 from q4] at k4
  rw [show sO c3 (tiO (c3 0) 3) = c4 from ec4] at hE4
  rw [show sO c3 (tiO (c3 0) 3) = c4 from ec4] at hn4
  have hh4 : ∀ j, j < 8 → j ≠ 5 → c4 (3 + j) = c3 (3 + j) := fun j hj hn => by have q9 := hh4 j hj hn; rwa [show sO c3 (tiO (c3 0) 3) = c4 from ec4] at q9
  clear ec4 q4 r4
  have hE4 : ES 6 8 E30 c4 := hE4
  have hi4_3 : c4 (3 + 3) = E27 := (hh4 3 (by omega) (by omega)).trans hi3_3
  have hi4_4 : c4 (3 + 4) = E28 := (hh4 4 (by omega) (by omega)).trans hi3_4
  have hi4_5 : c4 (3 + 5) = E29 := hn4
  refine k_SX1 hc [.ref x, .int 3] cw_L_241 dL_law_402 k4 hM hS hl.1 rfl rfl ⟨by omega, by omega⟩ ⟨by omega, by omega⟩ (Nat.le_of_ble_eq_true rfl) (fun H locs hM hS => ?_)
  refine lv_iload_n hx hb dL_law_405 rfl (lv_at hl 0 rfl) ?_
  refine lv_iconst (v := 1) hx hb dL_law_406 (by decide) ?_
  refine lv_iadd hx hb dL_law_407 ?_
  rw [show ((3 : Int32) + 1) = 4 from by decide]
  refine lv_icmp_eq (tgt := 413) hx hb dL_law_408 (by decide) (fun c_408 => ?_) (fun c_408 => absurd c_408 (by decide))
  refine lv_iinc (v := 4) (lv' := [(2, .int 4), (1, .ref x), (0, .ref (gSb g))]) hx hb dL_law_413 hl (k := 0) rfl (by decide) (by decide) rfl (fun ls hl => ?_)
  refine lv_goto (tgt := 395) hx hb dL_law_416 (by decide) ?_
  refine lv_iload_n hx hb dL_law_395 rfl (lv_at hl 0 rfl) ?_
  refine lv_iconst (v := 5) hx hb dL_law_396 (by decide) ?_
  refine lv_icmp_ge (tgt := 419) hx hb dL_law_397 (by decide) (fun c_397 => absurd c_397 (by decide)) (fun c_397 => ?_)
  refine lv_aload_n hx hb dL_law_400 rfl (lv_at hl 1 rfl) ?_
  refine lv_iload_n hx hb dL_law_401 rfl (lv_at hl 0 rfl) ?_
  have k5 := h_tie l hlf g (putC g M x c4) x c4 4 ClsAt.put hE4.2.2.1.ok
  have r5 : tiO (c4 0) 4 = tiO E30 4 := by rw [hE4.1]
  obtain ⟨q5, hE5, hn5, hh5⟩ := es_ok (w := 5) hE4 (r5.trans ok_31) (by omega)
  obtain ⟨c5, ec5⟩ : ∃ cX, s_tie c4 4 = cX := ⟨_, rfl⟩
  rw [ec5, putC_putC, show v_tie c4 4 = 5 from q5] at k5
  rw [show sO c4 (tiO (c4 0) 4) = c5 from ec5] at hE5
  rw [show sO c4 (tiO (c4 0) 4) = c5 from ec5] at hn5
  have hh5 : ∀ j, j < 8 → j ≠ 6 → c5 (3 + j) = c4 (3 + j) := fun j hj hn => by have q9 := hh5 j hj hn; rwa [show sO c4 (tiO (c4 0) 4) = c5 from ec5] at q9
  clear ec5 q5 r5
  have hE5 : ES 7 8 E31 c5 := hE5
  have hi5_4 : c5 (3 + 4) = E28 := (hh5 4 (by omega) (by omega)).trans hi4_4
  have hi5_5 : c5 (3 + 5) = E29 := (hh5 5 (by omega) (by omega)).trans hi4_5
  have hi5_6 : c5 (3 + 6) = E30 := hn5
  refine k_SX1 hc [.ref x, .int 4] cw_L_241 dL_law_402 k5 hM hS hl.1 rfl rfl ⟨by omega, by omega⟩ ⟨by omega, by omega⟩ (Nat.le_of_ble_eq_true rfl) (fun H locs hM hS => ?_)
  refine lv_iload_n hx hb dL_law_405 rfl (lv_at hl 0 rfl) ?_
  refine lv_iconst (v := 1) hx hb dL_law_406 (by decide) ?_
  refine lv_iadd hx hb dL_law_407 ?_
  rw [show ((4 : Int32) + 1) = 5 from by decide]
  refine lv_icmp_eq (tgt := 413) hx hb dL_law_408 (by decide) (fun c_408 => ?_) (fun c_408 => absurd c_408 (by decide))
  refine lv_iinc (v := 5) (lv' := [(2, .int 5), (1, .ref x), (0, .ref (gSb g))]) hx hb dL_law_413 hl (k := 0) rfl (by decide) (by decide) rfl (fun ls hl => ?_)
  refine lv_goto (tgt := 395) hx hb dL_law_416 (by decide) ?_
  refine lv_iload_n hx hb dL_law_395 rfl (lv_at hl 0 rfl) ?_
  refine lv_iconst (v := 5) hx hb dL_law_396 (by decide) ?_
  refine lv_icmp_ge (tgt := 419) hx hb dL_law_397 (by decide) (fun c_397 => ?_) (fun c_397 => absurd c_397 (by decide))
  refine lv_aload_n hx hb dL_law_419 rfl (lv_at hl 1 rfl) ?_
  refine lv_iconst (v := 4) hx hb dL_law_420 (by decide) ?_
  have k6 := h_tie l hlf g (putC g M x c5) x c5 4 ClsAt.put hE5.2.2.1.ok
  have r6 : tiO (c5 0) 4 = tiO E31 4 := by rw [hE5.1]
  obtain ⟨q6, hE6, x6, y6, z6, hh6⟩ := es_no hE5 (r6.trans no_31_tie)
  obtain ⟨c6, ec6⟩ : ∃ cX, s_tie c5 4 = cX := ⟨_, rfl⟩
  rw [ec6, putC_putC, show v_tie c5 4 = (-1001) from q6] at k6
  rw [show sO c5 (tiO (c5 0) 4) = c6 from ec6] at hE6
  rw [show sO c5 (tiO (c5 0) 4) = c6 from ec6] at x6
  rw [show sO c5 (tiO (c5 0) 4) = c6 from ec6] at y6
  rw [show sO c5 (tiO (c5 0) 4) = c6 from ec6] at z6
  have hh6 : ∀ j, j < 8 → c6 (3 + j) = c5 (3 + j) := fun j hj => by have q9 := hh6 j hj; rwa [show sO c5 (tiO (c5 0) 4) = c6 from ec6] at q9
  clear ec6 q6 r6
  have hi6_5 : c6 (3 + 5) = E29 := (hh6 5 (by omega)).trans hi5_5
  have hi6_6 : c6 (3 + 6) = E30 := (hh6 6 (by omega)).trans hi5_6
  refine k_SX1 hc [.ref x, .int 4] cw_L_241 dL_law_421 k6 hM hS hl.1 rfl rfl ⟨by omega, by omega⟩ ⟨by omega, by omega⟩ (Nat.le_of_ble_eq_true rfl) (fun H locs hM hS => ?_)
  refine lv_sipush (v := (-1001)) hx hb dL_law_424 (by decide) ?_
  refine lv_icmp_ne (tgt := 489) hx hb dL_law_427 (by decide) (fun c_427 => absurd c_427 (by decide)) (fun c_427 => ?_)
  refine lv_aload_n hx hb dL_law_430 rfl (lv_at hl 1 rfl) ?_
  refine lv_bipush (v := 7) hx hb dL_law_431 (by decide) ?_
  refine lv_iconst (v := 4) hx hb dL_law_433 (by decide) ?_
  refine lv_iconst (v := 0) hx hb dL_law_434 (by decide) ?_
  have k_is := c_L_is l hlf g (putC g M x c6) x c6 7 4 0 ClsAt.put
  rw [show v_is c6 7 4 0 = 1 from is_1 (by decide) x6 y6 z6] at k_is
  refine k_S1 hc [.ref x, .int 7, .int 4, .int 0] cw_L_282 dL_law_435 k_is hM hS hl.1 rfl rfl ⟨by omega, by omega⟩ ⟨by omega, by omega⟩ (Nat.le_of_ble_eq_true rfl) (fun H locs hM hS => ?_)
  refine lv_if_eq (tgt := 489) hx hb dL_law_438 (by decide) (fun c_438 => absurd c_438 (by decide)) (fun c_438 => ?_)
  refine lv_aload_n hx hb dL_law_441 rfl (lv_at hl 1 rfl) ?_
  refine lv_iconst (v := 5) hx hb dL_law_442 (by decide) ?_
  have k7 := h_loose l hlf g (putC g M x c6) x c6 5 ClsAt.put hE6.2.2.1.ok
  have r7 : loO (c6 0) 5 = loO E31 5 := by rw [hE6.1]
  obtain ⟨q7, hE7, x7, y7, z7, hh7⟩ := es_no hE6 (r7.trans no_31_loose)
  obtain ⟨c7, ec7⟩ : ∃ cX, s_loose c6 5 = cX := ⟨_, rfl⟩
  rw [ec7, putC_putC, show v_loose c6 5 = (-1001) from q7] at k7
  rw [show sO c6 (loO (c6 0) 5) = c7 from ec7] at hE7
  rw [show sO c6 (loO (c6 0) 5) = c7 from ec7] at x7
  rw [show sO c6 (loO (c6 0) 5) = c7 from ec7] at y7
  rw [show sO c6 (loO (c6 0) 5) = c7 from ec7] at z7
  have hh7 : ∀ j, j < 8 → c7 (3 + j) = c6 (3 + j) := fun j hj => by have q9 := hh7 j hj; rwa [show sO c6 (loO (c6 0) 5) = c7 from ec7] at q9
  clear ec7 q7 r7
  have hi7_5 : c7 (3 + 5) = E29 := (hh7 5 (by omega)).trans hi6_5
  have hi7_6 : c7 (3 + 6) = E30 := (hh7 6 (by omega)).trans hi6_6
  refine k_SX1 hc [.ref x, .int 5] cw_L_243 dL_law_443 k7 hM hS hl.1 rfl rfl ⟨by omega, by omega⟩ ⟨by omega, by omega⟩ (Nat.le_of_ble_eq_true rfl) (fun H locs hM hS => ?_)
  refine lv_sipush (v := (-1001)) hx hb dL_law_446 (by decide) ?_
  refine lv_icmp_ne (tgt := 489) hx hb dL_law_449 (by decide) (fun c_449 => absurd c_449 (by decide)) (fun c_449 => ?_)
  refine lv_aload_n hx hb dL_law_452 rfl (lv_at hl 1 rfl) ?_
  refine lv_bipush (v := 7) hx hb dL_law_453 (by decide) ?_
  refine lv_iconst (v := 5) hx hb dL_law_455 (by decide) ?_
  refine lv_iconst (v := 0) hx hb dL_law_456 (by decide) ?_
  have k_is := c_L_is l hlf g (putC g M x c7) x c7 7 5 0 ClsAt.put
  rw [show v_is c7 7 5 0 = 1 from is_1 (by decide) x7 y7 z7] at k_is
  refine k_S1 hc [.ref x, .int 7, .int 5, .int 0] cw_L_282 dL_law_457 k_is hM hS hl.1 rfl rfl ⟨by omega, by omega⟩ ⟨by omega, by omega⟩ (Nat.le_of_ble_eq_true rfl) (fun H locs hM hS => ?_)
  refine lv_if_eq (tgt := 489) hx hb dL_law_460 (by decide) (fun c_460 => absurd c_460 (by decide)) (fun c_460 => ?_)
  refine lv_aload_n hx hb dL_law_463 rfl (lv_at hl 1 rfl) ?_
  refine lv_bipush (v := 99) hx hb dL_law_464 (by decide) ?_
  have k1 := h_nearest l hlf g (putC g M x c7) x c7 99 ClsAt.put
  rw [show v_nearest c7 99 = 0 from by unfold v_nearest; rw [hE7.1]; decide +kernel] at k1
  refine k_SX1 hc [.ref x, .int 99] cw_L_232 dL_law_466 k1 hM hS hl.1 rfl rfl ⟨by omega, by omega⟩ ⟨by omega, by omega⟩ (Nat.le_of_ble_eq_true rfl) (fun H locs hM hS => ?_)
  refine lv_if_ne (tgt := 489) hx hb dL_law_469 (by decide) (fun c_469 => absurd c_469 (by decide)) (fun c_469 => ?_)
  refine lv_aload_n hx hb dL_law_472 rfl (lv_at hl 1 rfl) ?_
  refine lv_bipush (v := 9) hx hb dL_law_473 (by decide) ?_
  have k2 := h_bestPost l hlf g (putC g M x c7) x c7 9 ClsAt.put
  rw [show v_bestPost c7 9 = 0 from by unfold v_bestPost; rw [hE7.1]; decide +kernel] at k2
  refine k_SX1 hc [.ref x, .int 9] cw_L_209 dL_law_475 k2 hM hS hl.1 rfl rfl ⟨by omega, by omega⟩ ⟨by omega, by omega⟩ (Nat.le_of_ble_eq_true rfl) (fun H locs hM hS => ?_)
  refine lv_if_ne (tgt := 489) hx hb dL_law_478 (by decide) (fun c_478 => absurd c_478 (by decide)) (fun c_478 => ?_)
  refine lv_aload_n hx hb dL_law_481 rfl (lv_at hl 1 rfl) ?_
  refine lv_iconst (v := 0) hx hb dL_law_482 (by decide) ?_
  have k3 := h_bestPost l hlf g (putC g M x c7) x c7 0 ClsAt.put
  rw [show v_bestPost c7 0 = 0 from by unfold v_bestPost; rw [hE7.1]; decide +kernel] at k3
  refine k_SX1 hc [.ref x, .int 0] cw_L_209 dL_law_483 k3 hM hS hl.1 rfl rfl ⟨by omega, by omega⟩ ⟨by omega, by omega⟩ (Nat.le_of_ble_eq_true rfl) (fun H locs hM hS => ?_)
  refine lv_if_eq (tgt := 491) hx hb dL_law_486 (by decide) (fun c_486 => ?_) (fun c_486 => absurd c_486 (by decide))
  exact kk c7 H locs ls hE7 hi7_5 hi7_6 hM hS (lv_sub hl [1, 2] rfl)
end ER_3
section ER_4
variable {p : Program} {l : Launch} {e : Env} {R : Room} {s : State} {m : MethodId} {args : Array Value} {below : List Frame} {meth : Method} {c : Code} {H : Heap} {locs : List Loc} {cells slots : Nat} {Q : State → Prop}
variable {ls : Array Slot} {g : GC} {M : HM} {x : Nat}
set_option maxHeartbeats 4000000 in
set_option maxRecDepth 100000 in
theorem er_4 (hc : Cx g p l s m args meth c cL_law 11 RL) (hlf : l.stackTraces = false) (hfr : 20 ≤ R.frames) (hlo : 1300 ≤ R.locals) {c0 : CS} (hE0 : ES 7 8 E31 c0) (hi0_5 : c0 (3 + 5) = E29) (hi0_6 : c0 (3 + 6) = E30) (hce : cells + 2000 ≤ R.cells) (hse : slots + 12000 ≤ R.slots) (hM : hR g (putC g M x c0) H) (hS : va_S (gA g) s.heap H locs) (hl : lv_has ls 11 [(1, .ref x), (0, .ref (gSb g))])
    (kk : ∀ (c9 : CS) (H : Heap) (locs : List Loc) (ls : Array Slot), ES 4 8 E36 c9 → c9 (3 + 2) = E34 → c9 (3 + 3) = E35 → hR g (putC g M x c9) H → va_S (gA g) s.heap H locs → lv_has ls 11 [(1, .ref x), (0, .ref (gSb g))] → W p l e R s m args below meth c H locs (cells + 54) (slots + 324) Q (F0 m 700 ls [])) : W p l e R s m args below meth c H locs cells slots Q (F0 m 491 ls []) := by
  have hx := hc.1
  have hb := hc.2.1
  refine lv_aload_n hx hb dL_law_491 rfl (lv_at hl 0 rfl) ?_
  refine lv_bipush (v := 8) hx hb dL_law_492 (by decide) ?_
  have k1 := h_heat l hlf g (putC g M x c0) x c0 8 ClsAt.put hE0.2.2.1.ok
  have r1 : shO (c0 0) 8 = shO E31 8 := by rw [hE0.1]
  obtain ⟨q1, hE1, hn1, hh1⟩ := es_ok (w := 0) hE0 (r1.trans ok_32) (by omega)
  obtain ⟨c1, ec1⟩ : ∃ cX, s_heat c0 8 = cX := ⟨_, rfl⟩
  rw [ec1, putC_putC, show v_heat c0 8 = 0 from q1] at k1
  rw [show sO c0 (shO (c0 0) 8) = c1 from ec1] at hE1
  rw [show sO c0 (shO (c0 0) 8) = c1 from ec1] at hn1
  have hh1 : ∀ j, j < 8 → j ≠ 7 → c1 (3 + j) = c0 (3 + j) := fun j hj hn => by have q9 := hh1 j hj hn; rwa [show sO c0 (shO (c0 0) 8) = c1 from ec1] at q9
  clear ec1 q1 r1
  have hE1 : ES 0 8 E32 c1 := hE1
  have hi1_5 : c1 (3 + 5) = E29 := (hh1 5 (by omega) (by omega)).trans hi0_5
  have hi1_6 : c1 (3 + 6) = E30 := (hh1 6 (by omega) (by omega)).trans hi0_6
  have hi1_7 : c1 (3 + 7) = E31 := hn1
  refine k_SX1 hc [.ref x, .int 8] cw_L_181 dL_law_494 k1 hM hS hl.1 rfl rfl ⟨by omega, by omega⟩ ⟨by omega, by omega⟩ (Nat.le_of_ble_eq_true rfl) (fun H locs hM hS => ?_)
  refine lv_if_ne (tgt := 698) hx hb dL_law_497 (by decide) (fun c_497 => absurd c_497 (by decide)) (fun c_497 => ?_)
  refine lv_aload_n hx hb dL_law_500 rfl (lv_at hl 0 rfl) ?_
  refine lv_bipush (v := 12) hx hb dL_law_501 (by decide) ?_
  have k2 := h_hours l hlf g (putC g M x c1) x c1 12 ClsAt.put hE1.2.2.1.ok
  have r2 : phO (c1 0) 12 = phO E32 12 := by rw [hE1.1]
  obtain ⟨q2, hE2, hn2, hh2⟩ := es_ok (w := 0) hE1 (r2.trans ok_33) (by omega)
  obtain ⟨c2, ec2⟩ : ∃ cX, s_hours c1 12 = cX := ⟨_, rfl⟩
  rw [ec2, putC_putC, show v_hours c1 12 = 0 from q2] at k2
  rw [show sO c1 (phO (c1 0) 12) = c2 from ec2] at hE2
  rw [show sO c1 (phO (c1 0) 12) = c2 from ec2] at hn2
  have hh2 : ∀ j, j < 8 → j ≠ 0 → c2 (3 + j) = c1 (3 + j) := fun j hj hn => by have q9 := hh2 j hj hn; rwa [show sO c1 (phO (c1 0) 12) = c2 from ec2] at q9
  clear ec2 q2 r2
  have hE2 : ES 1 8 E33 c2 := hE2
  have hi2_6 : c2 (3 + 6) = E30 := (hh2 6 (by omega) (by omega)).trans hi1_6
  have hi2_7 : c2 (3 + 7) = E31 := (hh2 7 (by omega) (by omega)).trans hi1_7
  have hi2_0 : c2 (3 + 0) = E32 := hn2
  refine k_SX1 hc [.ref x, .int 12] cw_L_183 dL_law_503 k2 hM hS hl.1 rfl rfl ⟨by omega, by omega⟩ ⟨by omega, by omega⟩ (Nat.le_of_ble_eq_true rfl) (fun H locs hM hS => ?_)
  refine lv_if_ne (tgt := 698) hx hb dL_law_506 (by decide) (fun c_506 => absurd c_506 (by decide)) (fun c_506 => ?_)
  refine lv_aload_n hx hb dL_law_509 rfl (lv_at hl 0 rfl) ?_
  refine lv_iconst (v := 2) hx hb dL_law_510 (by decide) ?_
  have k1 := h_account l hlf g (putC g M x c2) x c2 2 ClsAt.put
  rw [show v_account c2 2 = 16 from ac_v (k := 2) (by decide) _ (by show acV c2 (nI 2) = 16; unfold acV; rw [if_neg (by decide), if_neg (by decide), if_pos (by decide), hE2.1]; decide +kernel)] at k1
  refine k_SX1 hc [.ref x, .int 2] cw_L_205 dL_law_511 k1 hM hS hl.1 rfl rfl ⟨by omega, by omega⟩ ⟨by omega, by omega⟩ (Nat.le_of_ble_eq_true rfl) (fun H locs hM hS => ?_)
  refine lv_bipush (v := 16) hx hb dL_law_514 (by decide) ?_
  refine lv_icmp_ne (tgt := 698) hx hb dL_law_516 (by decide) (fun c_516 => absurd c_516 (by decide)) (fun c_516 => ?_)
  refine lv_aload_n hx hb dL_law_519 rfl (lv_at hl 0 rfl) ?_
  refine lv_iconst (v := 5) hx hb dL_law_520 (by decide) ?_
  refine lv_iconst (v := 0) hx hb dL_law_521 (by decide) ?_
  have k2 := h_camelOf l hlf g (putC g M x c2) x c2 5 0 ClsAt.put
  rw [show v_camelOf c2 5 0 = 74 from by unfold v_camelOf; rw [hE2.1]; decide +kernel] at k2
  refine k_SX1 hc [.ref x, .int 5, .int 0] cw_L_224 dL_law_522 k2 hM hS hl.1 rfl rfl ⟨by omega, by omega⟩ ⟨by omega, by omega⟩ (Nat.le_of_ble_eq_true rfl) (fun H locs hM hS => ?_)
  refine lv_bipush (v := 74) hx hb dL_law_525 (by decide) ?_
  refine lv_icmp_ne (tgt := 698) hx hb dL_law_527 (by decide) (fun c_527 => absurd c_527 (by decide)) (fun c_527 => ?_)
  refine lv_aload_n hx hb dL_law_530 rfl (lv_at hl 0 rfl) ?_
  refine lv_iconst (v := 4) hx hb dL_law_531 (by decide) ?_
  refine lv_iconst (v := 0) hx hb dL_law_532 (by decide) ?_
  have k3 := h_camelOf l hlf g (putC g M x c2) x c2 4 0 ClsAt.put
  rw [show v_camelOf c2 4 0 = 95 from by unfold v_camelOf; rw [hE2.1]; decide +kernel] at k3
  refine k_SX1 hc [.ref x, .int 4, .int 0] cw_L_224 dL_law_533 k3 hM hS hl.1 rfl rfl ⟨by omega, by omega⟩ ⟨by omega, by omega⟩ (Nat.le_of_ble_eq_true rfl) (fun H locs hM hS => ?_)
  refine lv_bipush (v := 95) hx hb dL_law_536 (by decide) ?_
  refine lv_icmp_ne (tgt := 698) hx hb dL_law_538 (by decide) (fun c_538 => absurd c_538 (by decide)) (fun c_538 => ?_)
  refine lv_aload_n hx hb dL_law_541 rfl (lv_at hl 0 rfl) ?_
  refine lv_iconst (v := 0) hx hb dL_law_542 (by decide) ?_
  refine lv_iconst (v := 1) hx hb dL_law_543 (by decide) ?_
  have k4 := h_camelOf l hlf g (putC g M x c2) x c2 0 1 ClsAt.put
  rw [show v_camelOf c2 0 1 = 18 from by unfold v_camelOf; rw [hE2.1]; decide +kernel] at k4
  refine k_SX1 hc [.ref x, .int 0, .int 1] cw_L_224 dL_law_544 k4 hM hS hl.1 rfl rfl ⟨by omega, by omega⟩ ⟨by omega, by omega⟩ (Nat.le_of_ble_eq_true rfl) (fun H locs hM hS => ?_)
  refine lv_bipush (v := 18) hx hb dL_law_547 (by decide) ?_
  refine lv_icmp_ne (tgt := 698) hx hb dL_law_549 (by decide) (fun c_549 => absurd c_549 (by decide)) (fun c_549 => ?_)
  refine lv_aload_n hx hb dL_law_552 rfl (lv_at hl 0 rfl) ?_
  refine lv_iconst (v := 0) hx hb dL_law_553 (by decide) ?_
  have k5 := h_lostIn l hlf g (putC g M x c2) x c2 0 ClsAt.put
  rw [show v_lostIn c2 0 = 1 from by unfold v_lostIn; rw [hE2.1]; decide +kernel] at k5
  refine k_SX1 hc [.ref x, .int 0] cw_L_226 dL_law_554 k5 hM hS hl.1 rfl rfl ⟨by omega, by omega⟩ ⟨by omega, by omega⟩ (Nat.le_of_ble_eq_true rfl) (fun H locs hM hS => ?_)
  refine lv_iconst (v := 1) hx hb dL_law_557 (by decide) ?_
  refine lv_icmp_ne (tgt := 698) hx hb dL_law_558 (by decide) (fun c_558 => absurd c_558 (by decide)) (fun c_558 => ?_)
  refine lv_aload_n hx hb dL_law_561 rfl (lv_at hl 0 rfl) ?_
  refine lv_bipush (v := 9) hx hb dL_law_562 (by decide) ?_
  refine lv_iconst (v := 0) hx hb dL_law_564 (by decide) ?_
  have k6 := h_shimmers l hlf g (putC g M x c2) x c2 9 0 ClsAt.put
  rw [show v_shimmers c2 9 0 = 0 from by unfold v_shimmers; rw [hE2.1]; decide +kernel] at k6
  refine k_SX1 hc [.ref x, .int 9, .int 0] cw_L_217 dL_law_565 k6 hM hS hl.1 rfl rfl ⟨by omega, by omega⟩ ⟨by omega, by omega⟩ (Nat.le_of_ble_eq_true rfl) (fun H locs hM hS => ?_)
  refine lv_if_ne (tgt := 698) hx hb dL_law_568 (by decide) (fun c_568 => absurd c_568 (by decide)) (fun c_568 => ?_)
  refine lv_aload_n hx hb dL_law_571 rfl (lv_at hl 0 rfl) ?_
  refine lv_iconst (v := 0) hx hb dL_law_572 (by decide) ?_
  refine lv_iconst (v := 3) hx hb dL_law_573 (by decide) ?_
  have k7 := h_shimmers l hlf g (putC g M x c2) x c2 0 3 ClsAt.put
  rw [show v_shimmers c2 0 3 = 1 from by unfold v_shimmers; rw [hE2.1]; decide +kernel] at k7
  refine k_SX1 hc [.ref x, .int 0, .int 3] cw_L_217 dL_law_574 k7 hM hS hl.1 rfl rfl ⟨by omega, by omega⟩ ⟨by omega, by omega⟩ (Nat.le_of_ble_eq_true rfl) (fun H locs hM hS => ?_)
  refine lv_iconst (v := 1) hx hb dL_law_577 (by decide) ?_
  refine lv_icmp_ne (tgt := 698) hx hb dL_law_578 (by decide) (fun c_578 => absurd c_578 (by decide)) (fun c_578 => ?_)
  refine lv_aload_n hx hb dL_law_581 rfl (lv_at hl 0 rfl) ?_
  refine lv_iconst (v := 0) hx hb dL_law_582 (by decide) ?_
  refine lv_iconst (v := 0) hx hb dL_law_583 (by decide) ?_
  have k8 := h_seems l hlf g (putC g M x c2) x c2 0 0 ClsAt.put
  rw [show v_seems c2 0 0 = 31 from by unfold v_seems; rw [hE2.1]; decide +kernel] at k8
  refine k_SX1 hc [.ref x, .int 0, .int 0] cw_L_213 dL_law_584 k8 hM hS hl.1 rfl rfl ⟨by omega, by omega⟩ ⟨by omega, by omega⟩ (Nat.le_of_ble_eq_true rfl) (fun H locs hM hS => ?_)
  refine lv_bipush (v := 31) hx hb dL_law_587 (by decide) ?_
  refine lv_icmp_ne (tgt := 698) hx hb dL_law_589 (by decide) (fun c_589 => absurd c_589 (by decide)) (fun c_589 => ?_)
  refine lv_aload_n hx hb dL_law_592 rfl (lv_at hl 0 rfl) ?_
  refine lv_bipush (v := 8) hx hb dL_law_593 (by decide) ?_
  refine lv_iconst (v := 0) hx hb dL_law_595 (by decide) ?_
  have k9 := h_seems l hlf g (putC g M x c2) x c2 8 0 ClsAt.put
  rw [show v_seems c2 8 0 = 91 from by unfold v_seems; rw [hE2.1]; decide +kernel] at k9
  refine k_SX1 hc [.ref x, .int 8, .int 0] cw_L_213 dL_law_596 k9 hM hS hl.1 rfl rfl ⟨by omega, by omega⟩ ⟨by omega, by omega⟩ (Nat.le_of_ble_eq_true rfl) (fun H locs hM hS => ?_)
  refine lv_bipush (v := 91) hx hb dL_law_599 (by decide) ?_
  refine lv_icmp_ne (tgt := 698) hx hb dL_law_601 (by decide) (fun c_601 => absurd c_601 (by decide)) (fun c_601 => ?_)
  refine lv_aload_n hx hb dL_law_604 rfl (lv_at hl 0 rfl) ?_
  refine lv_iconst (v := 0) hx hb dL_law_605 (by decide) ?_
  have k3 := h_drink l hlf g (putC g M x c2) x c2 0 ClsAt.put hE2.2.2.1.ok
  have r3 : wcO (c2 0) 0 = wcO E33 0 := by rw [hE2.1]
  obtain ⟨q3, hE3, hn3, hh3⟩ := es_ok (w := 191) hE2 (r3.trans ok_34) (by omega)
  obtain ⟨c3, ec3⟩ : ∃ cX, s_drink c2 0 = cX := ⟨_, rfl⟩
  rw [ec3, putC_putC, show v_drink c2 0 = 191 from q3] at k3
  rw [show sO c2 (wcO (c2 0) 0) = c3 from ec3] at hE3
  rw [show sO c2 (wcO (c2 0) 0) = c3 from ec3] at hn3
  have hh3 : ∀ j, j < 8 → j ≠ 1 → c3 (3 + j) = c2 (3 + j) := fun j hj hn => by have q9 := hh3 j hj hn; rwa [show sO c2 (wcO (c2 0) 0) = c3 from ec3] at q9
  clear ec3 q3 r3
  have hE3 : ES 2 8 E34 c3 := hE3
  have hi3_7 : c3 (3 + 7) = E31 := (hh3 7 (by omega) (by omega)).trans hi2_7
  have hi3_0 : c3 (3 + 0) = E32 := (hh3 0 (by omega) (by omega)).trans hi2_0
  have hi3_1 : c3 (3 + 1) = E33 := hn3
  refine k_SX1 hc [.ref x, .int 0] cw_L_245 dL_law_606 k3 hM hS hl.1 rfl rfl ⟨by omega, by omega⟩ ⟨by omega, by omega⟩ (Nat.le_of_ble_eq_true rfl) (fun H locs hM hS => ?_)
  refine lv_sipush (v := 191) hx hb dL_law_609 (by decide) ?_
  refine lv_icmp_ne (tgt := 698) hx hb dL_law_612 (by decide) (fun c_612 => absurd c_612 (by decide)) (fun c_612 => ?_)
  refine lv_aload_n hx hb dL_law_615 rfl (lv_at hl 0 rfl) ?_
  refine lv_bipush (v := 12) hx hb dL_law_616 (by decide) ?_
  have k10 := h_account l hlf g (putC g M x c3) x c3 12 ClsAt.put
  rw [show v_account c3 12 = 9 from ac_v (k := 12) (by decide) _ (by show acV c3 (nI 12) = 9; unfold acV; rw [if_neg (by decide), if_neg (by decide), if_neg (by decide), if_neg (by decide), if_neg (by decide), if_neg (by decide), if_neg (by decide), if_neg (by decide), if_neg (by decide), if_neg (by decide), if_neg (by decide), if_neg (by decide), if_pos (by decide), hE3.1]; decide +kernel)] at k10
  refine k_SX1 hc [.ref x, .int 12] cw_L_205 dL_law_618 k10 hM hS hl.1 rfl rfl ⟨by omega, by omega⟩ ⟨by omega, by omega⟩ (Nat.le_of_ble_eq_true rfl) (fun H locs hM hS => ?_)
  refine lv_bipush (v := 9) hx hb dL_law_621 (by decide) ?_
  refine lv_icmp_ne (tgt := 698) hx hb dL_law_623 (by decide) (fun c_623 => absurd c_623 (by decide)) (fun c_623 => ?_)
  refine lv_aload_n hx hb dL_law_626 rfl (lv_at hl 0 rfl) ?_
  refine lv_iconst (v := 1) hx hb dL_law_627 (by decide) ?_
  have k4 := h_hours l hlf g (putC g M x c3) x c3 1 ClsAt.put hE3.2.2.1.ok
  have r4 : phO (c3 0) 1 = phO E34 1 := by rw [hE3.1]
  obtain ⟨q4, hE4, hn4, hh4⟩ := es_ok (w := 5) hE3 (r4.trans ok_35) (by omega)
  obtain ⟨c4, ec4⟩ : ∃ cX, s_hours c3 1 = cX := ⟨_, rfl⟩
  rw [ec4, putC_putC, show v_hours c3 1 = 5 from q4] at k4
  rw [show sO c3 (phO (c3 0) 1) = c4 from ec4] at hE4
  rw [show sO c3 (phO (c3 0) 1) = c4 from ec4] at hn4
  have hh4 : ∀ j, j < 8 → j ≠ 2 → c4 (3 + j) = c3 (3 + j) := fun j hj hn => by have q9 := hh4 j hj hn; rwa [show sO c3 (phO (c3 0) 1) = c4 from ec4] at q9
  clear ec4 q4 r4
  have hE4 : ES 3 8 E35 c4 := hE4
  have hi4_0 : c4 (3 + 0) = E32 := (hh4 0 (by omega) (by omega)).trans hi3_0
  have hi4_1 : c4 (3 + 1) = E33 := (hh4 1 (by omega) (by omega)).trans hi3_1
  have hi4_2 : c4 (3 + 2) = E34 := hn4
  refine k_SX1 hc [.ref x, .int 1] cw_L_183 dL_law_628 k4 hM hS hl.1 rfl rfl ⟨by omega, by omega⟩ ⟨by omega, by omega⟩ (Nat.le_of_ble_eq_true rfl) (fun H locs hM hS => ?_)
  refine lv_iconst (v := 5) hx hb dL_law_631 (by decide) ?_
  refine lv_icmp_ne (tgt := 698) hx hb dL_law_632 (by decide) (fun c_632 => absurd c_632 (by decide)) (fun c_632 => ?_)
  refine lv_aload_n hx hb dL_law_635 rfl (lv_at hl 0 rfl) ?_
  refine lv_bipush (v := 10) hx hb dL_law_636 (by decide) ?_
  have k11 := h_account l hlf g (putC g M x c4) x c4 10 ClsAt.put
  rw [show v_account c4 10 = 5 from ac_v (k := 10) (by decide) _ (by show acV c4 (nI 10) = 5; unfold acV; rw [if_neg (by decide), if_neg (by decide), if_neg (by decide), if_neg (by decide), if_neg (by decide), if_neg (by decide), if_neg (by decide), if_neg (by decide), if_neg (by decide), if_neg (by decide), if_pos (by decide), hE4.1]; decide +kernel)] at k11
  refine k_SX1 hc [.ref x, .int 10] cw_L_205 dL_law_638 k11 hM hS hl.1 rfl rfl ⟨by omega, by omega⟩ ⟨by omega, by omega⟩ (Nat.le_of_ble_eq_true rfl) (fun H locs hM hS => ?_)
  refine lv_iconst (v := 5) hx hb dL_law_641 (by decide) ?_
  refine lv_icmp_ne (tgt := 698) hx hb dL_law_642 (by decide) (fun c_642 => absurd c_642 (by decide)) (fun c_642 => ?_)
  refine lv_aload_n hx hb dL_law_645 rfl (lv_at hl 0 rfl) ?_
  refine lv_bipush (v := 9) hx hb dL_law_646 (by decide) ?_
  have k12 := h_account l hlf g (putC g M x c4) x c4 9 ClsAt.put
  rw [show v_account c4 9 = 5 from ac_v (k := 9) (by decide) _ (by show acV c4 (nI 9) = 5; unfold acV; rw [if_neg (by decide), if_neg (by decide), if_neg (by decide), if_neg (by decide), if_neg (by decide), if_neg (by decide), if_neg (by decide), if_neg (by decide), if_neg (by decide), if_pos (by decide), hE4.1]; decide +kernel)] at k12
  refine k_SX1 hc [.ref x, .int 9] cw_L_205 dL_law_648 k12 hM hS hl.1 rfl rfl ⟨by omega, by omega⟩ ⟨by omega, by omega⟩ (Nat.le_of_ble_eq_true rfl) (fun H locs hM hS => ?_)
  refine lv_iconst (v := 5) hx hb dL_law_651 (by decide) ?_
  refine lv_icmp_ne (tgt := 698) hx hb dL_law_652 (by decide) (fun c_652 => absurd c_652 (by decide)) (fun c_652 => ?_)
  refine lv_aload_n hx hb dL_law_655 rfl (lv_at hl 0 rfl) ?_
  refine lv_iconst (v := 1) hx hb dL_law_656 (by decide) ?_
  have k5 := h_loose l hlf g (putC g M x c4) x c4 1 ClsAt.put hE4.2.2.1.ok
  have r5 : loO (c4 0) 1 = loO E35 1 := by rw [hE4.1]
  obtain ⟨q5, hE5, hn5, hh5⟩ := es_ok (w := 4) hE4 (r5.trans ok_36) (by omega)
  obtain ⟨c5, ec5⟩ : ∃ cX, s_loose c4 1 = cX := ⟨_, rfl⟩
  rw [ec5, putC_putC, show v_loose c4 1 = 4 from q5] at k5
  rw [show sO c4 (loO (c4 0) 1) = c5 from ec5] at hE5
  rw [show sO c4 (loO (c4 0) 1) = c5 from ec5] at hn5
  have hh5 : ∀ j, j < 8 → j ≠ 3 → c5 (3 + j) = c4 (3 + j) := fun j hj hn => by have q9 := hh5 j hj hn; rwa [show sO c4 (loO (c4 0) 1) = c5 from ec5] at q9
  clear ec5 q5 r5
  have hE5 : ES 4 8 E36 c5 := hE5
  have hi5_1 : c5 (3 + 1) = E33 := (hh5 1 (by omega) (by omega)).trans hi4_1
  have hi5_2 : c5 (3 + 2) = E34 := (hh5 2 (by omega) (by omega)).trans hi4_2
  have hi5_3 : c5 (3 + 3) = E35 := hn5
  refine k_SX1 hc [.ref x, .int 1] cw_L_243 dL_law_657 k5 hM hS hl.1 rfl rfl ⟨by omega, by omega⟩ ⟨by omega, by omega⟩ (Nat.le_of_ble_eq_true rfl) (fun H locs hM hS => ?_)
  refine lv_iconst (v := 4) hx hb dL_law_660 (by decide) ?_
  refine lv_icmp_ne (tgt := 698) hx hb dL_law_661 (by decide) (fun c_661 => absurd c_661 (by decide)) (fun c_661 => ?_)
  refine lv_aload_n hx hb dL_law_664 rfl (lv_at hl 0 rfl) ?_
  refine lv_iconst (v := 1) hx hb dL_law_665 (by decide) ?_
  have k6 := h_tie l hlf g (putC g M x c5) x c5 1 ClsAt.put hE5.2.2.1.ok
  have r6 : tiO (c5 0) 1 = tiO E36 1 := by rw [hE5.1]
  obtain ⟨q6, hE6, x6, y6, z6, hh6⟩ := es_no hE5 (r6.trans no_36_tie)
  obtain ⟨c6, ec6⟩ : ∃ cX, s_tie c5 1 = cX := ⟨_, rfl⟩
  rw [ec6, putC_putC, show v_tie c5 1 = (-1001) from q6] at k6
  rw [show sO c5 (tiO (c5 0) 1) = c6 from ec6] at hE6
  rw [show sO c5 (tiO (c5 0) 1) = c6 from ec6] at x6
  rw [show sO c5 (tiO (c5 0) 1) = c6 from ec6] at y6
  rw [show sO c5 (tiO (c5 0) 1) = c6 from ec6] at z6
  have hh6 : ∀ j, j < 8 → c6 (3 + j) = c5 (3 + j) := fun j hj => by have q9 := hh6 j hj; rwa [show sO c5 (tiO (c5 0) 1) = c6 from ec6] at q9
  clear ec6 q6 r6
  have hi6_2 : c6 (3 + 2) = E34 := (hh6 2 (by omega)).trans hi5_2
  have hi6_3 : c6 (3 + 3) = E35 := (hh6 3 (by omega)).trans hi5_3
  refine k_SX1 hc [.ref x, .int 1] cw_L_241 dL_law_666 k6 hM hS hl.1 rfl rfl ⟨by omega, by omega⟩ ⟨by omega, by omega⟩ (Nat.le_of_ble_eq_true rfl) (fun H locs hM hS => ?_)
  refine lv_sipush (v := (-1001)) hx hb dL_law_669 (by decide) ?_
  refine lv_icmp_ne (tgt := 698) hx hb dL_law_672 (by decide) (fun c_672 => absurd c_672 (by decide)) (fun c_672 => ?_)
  refine lv_aload_n hx hb dL_law_675 rfl (lv_at hl 0 rfl) ?_
  refine lv_bipush (v := 8) hx hb dL_law_676 (by decide) ?_
  refine lv_bipush (v := 95) hx hb dL_law_678 (by decide) ?_
  refine lv_iconst (v := 0) hx hb dL_law_680 (by decide) ?_
  have k_is := c_L_is l hlf g (putC g M x c6) x c6 8 95 0 ClsAt.put
  rw [show v_is c6 8 95 0 = 1 from is_1 (by decide) x6 y6 z6] at k_is
  refine k_S1 hc [.ref x, .int 8, .int 95, .int 0] cw_L_282 dL_law_681 k_is hM hS hl.1 rfl rfl ⟨by omega, by omega⟩ ⟨by omega, by omega⟩ (Nat.le_of_ble_eq_true rfl) (fun H locs hM hS => ?_)
  refine lv_if_eq (tgt := 698) hx hb dL_law_684 (by decide) (fun c_684 => absurd c_684 (by decide)) (fun c_684 => ?_)
  refine lv_aload_n hx hb dL_law_687 rfl (lv_at hl 0 rfl) ?_
  refine lv_iconst (v := 5) hx hb dL_law_688 (by decide) ?_
  refine lv_iconst (v := 0) hx hb dL_law_689 (by decide) ?_
  have k13 := h_camelOf l hlf g (putC g M x c6) x c6 5 0 ClsAt.put
  rw [show v_camelOf c6 5 0 = 74 from by unfold v_camelOf; rw [hE6.1]; decide +kernel] at k13
  refine k_SX1 hc [.ref x, .int 5, .int 0] cw_L_224 dL_law_690 k13 hM hS hl.1 rfl rfl ⟨by omega, by omega⟩ ⟨by omega, by omega⟩ (Nat.le_of_ble_eq_true rfl) (fun H locs hM hS => ?_)
  refine lv_bipush (v := 74) hx hb dL_law_693 (by decide) ?_
  refine lv_icmp_eq (tgt := 700) hx hb dL_law_695 (by decide) (fun c_695 => ?_) (fun c_695 => absurd c_695 (by decide))
  exact kk c6 H locs ls hE6 hi6_2 hi6_3 hM hS (lv_sub hl [0, 1] rfl)
end ER_4
section ER_5
variable {p : Program} {l : Launch} {e : Env} {R : Room} {s : State} {m : MethodId} {args : Array Value} {below : List Frame} {meth : Method} {c : Code} {H : Heap} {locs : List Loc} {cells slots : Nat} {Q : State → Prop}
variable {ls : Array Slot} {g : GC} {M : HM} {x : Nat}
set_option maxHeartbeats 4000000 in
set_option maxRecDepth 100000 in
theorem er_5 (hc : Cx g p l s m args meth c cL_law 11 RL) (hlf : l.stackTraces = false) (hfr : 20 ≤ R.frames) (hlo : 1300 ≤ R.locals) {c0 : CS} (hE0 : ES 4 8 E36 c0) (hi0_2 : c0 (3 + 2) = E34) (hi0_3 : c0 (3 + 3) = E35) (hce : cells + 2000 ≤ R.cells) (hse : slots + 12000 ≤ R.slots) (hM : hR g (putC g M x c0) H) (hS : va_S (gA g) s.heap H locs) (hl : lv_has ls 11 [(1, .ref x), (0, .ref (gSb g))])
    (kk : ∀ (c9 : CS) (H : Heap) (locs : List Loc) (ls : Array Slot), ES 3 0 E0 c9 → hR g (putC g M x c9) H → va_S (gA g) s.heap H locs → lv_has ls 11 [(1, .ref x), (0, .ref (gSb g))] → W p l e R s m args below meth c H locs (cells + 32) (slots + 192) Q (F0 m 820 ls [])) : W p l e R s m args below meth c H locs cells slots Q (F0 m 700 ls []) := by
  have hx := hc.1
  have hb := hc.2.1
  refine lv_aload_n hx hb dL_law_700 rfl (lv_at hl 0 rfl) ?_
  refine lv_bipush (v := 95) hx hb dL_law_701 (by decide) ?_
  have k1 := h_bell l hlf g (putC g M x c0) x c0 95 ClsAt.put hE0.2.2.1.ok
  have r1 : rbO (c0 0) 95 = rbO E36 95 := by rw [hE0.1]
  obtain ⟨q1, hE1, hn1, hh1⟩ := es_ok (w := 5) hE0 (r1.trans ok_37) (by omega)
  obtain ⟨c1, ec1⟩ : ∃ cX, s_bell c0 95 = cX := ⟨_, rfl⟩
  rw [ec1, putC_putC, show v_bell c0 95 = 5 from q1] at k1
  rw [show sO c0 (rbO (c0 0) 95) = c1 from ec1] at hE1
  rw [show sO c0 (rbO (c0 0) 95) = c1 from ec1] at hn1
  have hh1 : ∀ j, j < 8 → j ≠ 4 → c1 (3 + j) = c0 (3 + j) := fun j hj hn => by have q9 := hh1 j hj hn; rwa [show sO c0 (rbO (c0 0) 95) = c1 from ec1] at q9
  clear ec1 q1 r1
  have hE1 : ES 5 8 E37 c1 := hE1
  have hi1_2 : c1 (3 + 2) = E34 := (hh1 2 (by omega) (by omega)).trans hi0_2
  have hi1_3 : c1 (3 + 3) = E35 := (hh1 3 (by omega) (by omega)).trans hi0_3
  have hi1_4 : c1 (3 + 4) = E36 := hn1
  refine k_SX1 hc [.ref x, .int 95] cw_L_239 dL_law_703 k1 hM hS hl.1 rfl rfl ⟨by omega, by omega⟩ ⟨by omega, by omega⟩ (Nat.le_of_ble_eq_true rfl) (fun H locs hM hS => ?_)
  refine lv_iconst (v := 5) hx hb dL_law_706 (by decide) ?_
  refine lv_icmp_ne (tgt := 780) hx hb dL_law_707 (by decide) (fun c_707 => absurd c_707 (by decide)) (fun c_707 => ?_)
  refine lv_aload_n hx hb dL_law_710 rfl (lv_at hl 0 rfl) ?_
  refine lv_iconst (v := 0) hx hb dL_law_711 (by decide) ?_
  refine lv_iconst (v := 0) hx hb dL_law_712 (by decide) ?_
  refine lv_iconst (v := 1) hx hb dL_law_713 (by decide) ?_
  have k2 := h_sight l hlf g (putC g M x c1) x c1 0 0 1 ClsAt.put hE1.2.2.1.ok
  have r2 : sgO (c1 0) 0 0 1 = sgO E37 0 0 1 := by rw [hE1.1]
  obtain ⟨d2, ed2⟩ := no_37_sight
  obtain ⟨q2, hE2, x2, y2, z2, hh2⟩ := es_no hE1 (r2.trans ed2)
  obtain ⟨c2, ec2⟩ : ∃ cX, s_sight c1 0 0 1 = cX := ⟨_, rfl⟩
  rw [ec2, putC_putC, show v_sight c1 0 0 1 = (-1001) from q2] at k2
  rw [show sO c1 (sgO (c1 0) 0 0 1) = c2 from ec2] at hE2
  rw [show sO c1 (sgO (c1 0) 0 0 1) = c2 from ec2] at x2
  rw [show sO c1 (sgO (c1 0) 0 0 1) = c2 from ec2] at y2
  rw [show sO c1 (sgO (c1 0) 0 0 1) = c2 from ec2] at z2
  have hh2 : ∀ j, j < 8 → c2 (3 + j) = c1 (3 + j) := fun j hj => by have q9 := hh2 j hj; rwa [show sO c1 (sgO (c1 0) 0 0 1) = c2 from ec2] at q9
  clear ec2 q2 r2
  have hi2_3 : c2 (3 + 3) = E35 := (hh2 3 (by omega)).trans hi1_3
  have hi2_4 : c2 (3 + 4) = E36 := (hh2 4 (by omega)).trans hi1_4
  refine k_SX1 hc [.ref x, .int 0, .int 0, .int 1] cw_L_234 dL_law_714 k2 hM hS hl.1 rfl rfl ⟨by omega, by omega⟩ ⟨by omega, by omega⟩ (Nat.le_of_ble_eq_true rfl) (fun H locs hM hS => ?_)
  refine lv_sipush (v := (-1001)) hx hb dL_law_717 (by decide) ?_
  refine lv_icmp_ne (tgt := 780) hx hb dL_law_720 (by decide) (fun c_720 => absurd c_720 (by decide)) (fun c_720 => ?_)
  refine lv_aload_n hx hb dL_law_723 rfl (lv_at hl 0 rfl) ?_
  refine lv_iconst (v := 0) hx hb dL_law_724 (by decide) ?_
  have k1 := h_reason l hlf g (putC g M x c2) x c2 0 ClsAt.put
  rw [show v_reason c2 0 = 5 from by unfold v_reason; rw [if_pos (by decide), if_pos (by rw [x2]; decide)]; exact x2] at k1
  refine k_SX1 hc [.ref x, .int 0] cw_L_158 dL_law_725 k1 hM hS hl.1 rfl rfl ⟨by omega, by omega⟩ ⟨by omega, by omega⟩ (Nat.le_of_ble_eq_true rfl) (fun H locs hM hS => ?_)
  refine lv_iconst (v := 5) hx hb dL_law_728 (by decide) ?_
  refine lv_icmp_ne (tgt := 780) hx hb dL_law_729 (by decide) (fun c_729 => absurd c_729 (by decide)) (fun c_729 => ?_)
  refine lv_aload_n hx hb dL_law_732 rfl (lv_at hl 0 rfl) ?_
  have k3 := h_undo l hlf g (putC g M x c2) x c2 ClsAt.put hE2.2.2.1.ok
  obtain ⟨q3, hE3, hh3⟩ := es_undo hE2 (by omega)
  obtain ⟨c3, ec3⟩ : ∃ cX, s_undo c2 = cX := ⟨_, rfl⟩
  rw [ec3, putC_putC, show v_undo c2 = 7 from q3] at k3
  rw [ec3] at hE3 hh3
  have hE3 : ES 4 7 (c2 (3 + 4)) c3 := hE3
  rw [hi2_4] at hE3
  have hi3_3 : c3 (3 + 3) = E35 := (hh3 3 (by omega)).trans hi2_3
  have hi3_4 : c3 (3 + 4) = E36 := (hh3 4 (by omega)).trans hi2_4
  refine k_SX1 hc [.ref x] cw_L_294 dL_law_733 k3 hM hS hl.1 rfl rfl ⟨by omega, by omega⟩ ⟨by omega, by omega⟩ (Nat.le_of_ble_eq_true rfl) (fun H locs hM hS => ?_)
  refine lv_bipush (v := 7) hx hb dL_law_736 (by decide) ?_
  refine lv_icmp_ne (tgt := 780) hx hb dL_law_738 (by decide) (fun c_738 => absurd c_738 (by decide)) (fun c_738 => ?_)
  refine lv_aload_n hx hb dL_law_741 rfl (lv_at hl 0 rfl) ?_
  refine lv_bipush (v := 9) hx hb dL_law_742 (by decide) ?_
  have k2 := h_account l hlf g (putC g M x c3) x c3 9 ClsAt.put
  rw [show v_account c3 9 = 4 from ac_v (k := 9) (by decide) _ (by show acV c3 (nI 9) = 4; unfold acV; rw [if_neg (by decide), if_neg (by decide), if_neg (by decide), if_neg (by decide), if_neg (by decide), if_neg (by decide), if_neg (by decide), if_neg (by decide), if_neg (by decide), if_pos (by decide), hE3.1]; decide +kernel)] at k2
  refine k_SX1 hc [.ref x, .int 9] cw_L_205 dL_law_744 k2 hM hS hl.1 rfl rfl ⟨by omega, by omega⟩ ⟨by omega, by omega⟩ (Nat.le_of_ble_eq_true rfl) (fun H locs hM hS => ?_)
  refine lv_iconst (v := 4) hx hb dL_law_747 (by decide) ?_
  refine lv_icmp_ne (tgt := 780) hx hb dL_law_748 (by decide) (fun c_748 => absurd c_748 (by decide)) (fun c_748 => ?_)
  refine lv_aload_n hx hb dL_law_751 rfl (lv_at hl 0 rfl) ?_
  have k4 := h_undo l hlf g (putC g M x c3) x c3 ClsAt.put hE3.2.2.1.ok
  obtain ⟨q4, hE4, hh4⟩ := es_undo hE3 (by omega)
  obtain ⟨c4, ec4⟩ : ∃ cX, s_undo c3 = cX := ⟨_, rfl⟩
  rw [ec4, putC_putC, show v_undo c3 = 6 from q4] at k4
  rw [ec4] at hE4 hh4
  have hE4 : ES 3 6 (c3 (3 + 3)) c4 := hE4
  rw [hi3_3] at hE4
  have hi4_3 : c4 (3 + 3) = E35 := (hh4 3 (by omega)).trans hi3_3
  have hi4_4 : c4 (3 + 4) = E36 := (hh4 4 (by omega)).trans hi3_4
  refine k_SX1 hc [.ref x] cw_L_294 dL_law_752 k4 hM hS hl.1 rfl rfl ⟨by omega, by omega⟩ ⟨by omega, by omega⟩ (Nat.le_of_ble_eq_true rfl) (fun H locs hM hS => ?_)
  refine lv_bipush (v := 6) hx hb dL_law_755 (by decide) ?_
  refine lv_icmp_ne (tgt := 780) hx hb dL_law_757 (by decide) (fun c_757 => absurd c_757 (by decide)) (fun c_757 => ?_)
  refine lv_aload_n hx hb dL_law_760 rfl (lv_at hl 0 rfl) ?_
  refine lv_bipush (v := 9) hx hb dL_law_761 (by decide) ?_
  have k3 := h_account l hlf g (putC g M x c4) x c4 9 ClsAt.put
  rw [show v_account c4 9 = 5 from ac_v (k := 9) (by decide) _ (by show acV c4 (nI 9) = 5; unfold acV; rw [if_neg (by decide), if_neg (by decide), if_neg (by decide), if_neg (by decide), if_neg (by decide), if_neg (by decide), if_neg (by decide), if_neg (by decide), if_neg (by decide), if_pos (by decide), hE4.1]; decide +kernel)] at k3
  refine k_SX1 hc [.ref x, .int 9] cw_L_205 dL_law_763 k3 hM hS hl.1 rfl rfl ⟨by omega, by omega⟩ ⟨by omega, by omega⟩ (Nat.le_of_ble_eq_true rfl) (fun H locs hM hS => ?_)
  refine lv_iconst (v := 5) hx hb dL_law_766 (by decide) ?_
  refine lv_icmp_ne (tgt := 780) hx hb dL_law_767 (by decide) (fun c_767 => absurd c_767 (by decide)) (fun c_767 => ?_)
  refine lv_aload_n hx hb dL_law_770 rfl (lv_at hl 0 rfl) ?_
  refine lv_bipush (v := 10) hx hb dL_law_771 (by decide) ?_
  have k4 := h_account l hlf g (putC g M x c4) x c4 10 ClsAt.put
  rw [show v_account c4 10 = 5 from ac_v (k := 10) (by decide) _ (by show acV c4 (nI 10) = 5; unfold acV; rw [if_neg (by decide), if_neg (by decide), if_neg (by decide), if_neg (by decide), if_neg (by decide), if_neg (by decide), if_neg (by decide), if_neg (by decide), if_neg (by decide), if_neg (by decide), if_pos (by decide), hE4.1]; decide +kernel)] at k4
  refine k_SX1 hc [.ref x, .int 10] cw_L_205 dL_law_773 k4 hM hS hl.1 rfl rfl ⟨by omega, by omega⟩ ⟨by omega, by omega⟩ (Nat.le_of_ble_eq_true rfl) (fun H locs hM hS => ?_)
  refine lv_iconst (v := 5) hx hb dL_law_776 (by decide) ?_
  refine lv_icmp_eq (tgt := 782) hx hb dL_law_777 (by decide) (fun c_777 => ?_) (fun c_777 => absurd c_777 (by decide))
  refine lv_aload_n hx hb dL_law_782 rfl (lv_at hl 0 rfl) ?_
  have k5 := h_restore l hlf g (putC g M x c4) x c4 ClsAt.put
  obtain ⟨q5, hE5⟩ := es_rest hE4
  obtain ⟨c5, ec5⟩ : ∃ cX, s_restore c4 = cX := ⟨_, rfl⟩
  rw [ec5, putC_putC, q5] at k5
  rw [ec5] at hE5
  refine k_SX1 hc [.ref x] cw_L_296 dL_law_783 k5 hM hS hl.1 rfl rfl ⟨by omega, by omega⟩ ⟨by omega, by omega⟩ (Nat.le_of_ble_eq_true rfl) (fun H locs hM hS => ?_)
  refine lv_if_ne (tgt := 818) hx hb dL_law_786 (by decide) (fun c_786 => absurd c_786 (by decide)) (fun c_786 => ?_)
  refine lv_aload_n hx hb dL_law_789 rfl (lv_at hl 0 rfl) ?_
  refine lv_iconst (v := 4) hx hb dL_law_790 (by decide) ?_
  have k5 := h_account l hlf g (putC g M x c5) x c5 4 ClsAt.put
  rw [show v_account c5 4 = 0 from ac_v (k := 4) (by decide) _ (by show acV c5 (nI 4) = 0; unfold acV; rw [if_neg (by decide), if_neg (by decide), if_neg (by decide), if_neg (by decide), if_pos (by decide), hE5.1]; decide +kernel)] at k5
  refine k_SX1 hc [.ref x, .int 4] cw_L_205 dL_law_791 k5 hM hS hl.1 rfl rfl ⟨by omega, by omega⟩ ⟨by omega, by omega⟩ (Nat.le_of_ble_eq_true rfl) (fun H locs hM hS => ?_)
  refine lv_if_ne (tgt := 818) hx hb dL_law_794 (by decide) (fun c_794 => absurd c_794 (by decide)) (fun c_794 => ?_)
  refine lv_aload_n hx hb dL_law_797 rfl (lv_at hl 0 rfl) ?_
  refine lv_bipush (v := 11) hx hb dL_law_798 (by decide) ?_
  have k6 := h_account l hlf g (putC g M x c5) x c5 11 ClsAt.put
  rw [show v_account c5 11 = 60 from ac_v (k := 11) (by decide) _ (by show acV c5 (nI 11) = 60; unfold acV; rw [if_neg (by decide), if_neg (by decide), if_neg (by decide), if_neg (by decide), if_neg (by decide), if_neg (by decide), if_neg (by decide), if_neg (by decide), if_neg (by decide), if_neg (by decide), if_neg (by decide), if_pos (by decide), hE5.1]; decide +kernel)] at k6
  refine k_SX1 hc [.ref x, .int 11] cw_L_205 dL_law_800 k6 hM hS hl.1 rfl rfl ⟨by omega, by omega⟩ ⟨by omega, by omega⟩ (Nat.le_of_ble_eq_true rfl) (fun H locs hM hS => ?_)
  refine lv_bipush (v := 60) hx hb dL_law_803 (by decide) ?_
  refine lv_icmp_ne (tgt := 818) hx hb dL_law_805 (by decide) (fun c_805 => absurd c_805 (by decide)) (fun c_805 => ?_)
  refine lv_aload_n hx hb dL_law_808 rfl (lv_at hl 0 rfl) ?_
  have k6 := h_undo l hlf g (putC g M x c5) x c5 ClsAt.put hE5.2.2.1.ok
  obtain ⟨q6, p6⟩ := undo_no (c := c5) hE5.2.2.1.2.2.2
  rw [q6, p6, putC_putC] at k6
  refine k_SX1 hc [.ref x] cw_L_294 dL_law_809 k6 hM hS hl.1 rfl rfl ⟨by omega, by omega⟩ ⟨by omega, by omega⟩ (Nat.le_of_ble_eq_true rfl) (fun H locs hM hS => ?_)
  have hE6 := hE5
  refine lv_sipush (v := (-1001)) hx hb dL_law_812 (by decide) ?_
  refine lv_icmp_eq (tgt := 820) hx hb dL_law_815 (by decide) (fun c_815 => ?_) (fun c_815 => absurd c_815 (by decide))
  exact kk c5 H locs ls hE6 hM hS (lv_sub hl [0, 1] rfl)
end ER_5
theorem gi_1 : GI 48 E1 := by
  obtain ⟨v, fl', hv, e, hF, -⟩ := ph_ok (y := 48) fi_0 (by omega) (by omega) (by omega)
  have e1 : phO E0 48 = .inl (nI v, fl') := e
  rw [ok_1] at e1
  have h2 : E1 = fl' := (Prod.mk.inj (Sum.inl.inj e1)).2
  rw [h2]
  exact ⟨0, 0, 0, 0, _, _, _, by omega, hF⟩
section ER0
variable {p : Program} {l : Launch} {e : Env} {R : Room} {s : State} {m : MethodId} {args : Array Value} {below : List Frame} {meth : Method} {c : Code} {H : Heap} {locs : List Loc} {cells slots : Nat} {Q : State → Prop}
variable {ls : Array Slot} {g : GC} {M : HM} {x : Nat}
set_option maxHeartbeats 4000000 in
set_option maxRecDepth 100000 in
theorem er_0 (hc : Cx g p l s m args meth c cL_law 11 RL) (hlf : l.stackTraces = false) (hfr : 20 ≤ R.frames) (hlo : 1300 ≤ R.locals) (hce : cells + 2000 ≤ R.cells) (hse : slots + 30000 ≤ R.slots) (hS : va_S (gA g) s.heap H locs) (hl : lv_has ls 11 [(0, .ref (gSb g))])
    (kk : ∀ (x : Nat) (c9 : CS) (H : Heap) (locs : List Loc) (ls : Array Slot), ES 1 1 E1 c9 → c9 (3 + 0) = E0 → hR g (putC g (fun _ => none) x c9) H → va_S (gA g) s.heap H locs → lv_has ls 11 [(1, .ref x), (0, .ref (gSb g))] → W p l e R s m args below meth c H locs (cells + 1000) (slots + 20000) Q (F0 m 138 ls [])) : W p l e R s m args below meth c H locs cells slots Q (F0 m 0 ls []) := by
  have hx := hc.1
  have hb := hc.2.1
  refine k_mkObj hc hlf dL_law_0 dL_law_3 dL_law_4 hS hl.1 hfr hlo (by omega) (by omega) (fun x H locs hM hS => ?_)
  refine lv_astore_n (lv' := [(1, .ref x), (0, .ref (gSb g))]) hx hb dL_law_7 rfl hl (by decide) rfl (fun ls hl => ?_)
  have hR0 : Rg 0 0 cs0 := ⟨by omega, by omega, rfl, rfl⟩
  have k1 := h_undo l hlf g (putC g (fun _ => none) x cs0) x cs0 ClsAt.put hR0.ok
  obtain ⟨u1, u2⟩ := undo_no (c := cs0) rfl
  rw [putC_putC, u1, u2] at k1
  refine lv_aload_n hx hb dL_law_8 rfl (lv_at hl 0 rfl) ?_
  refine k_SX1 hc [.ref x] cw_L_294 dL_law_9 k1 hM hS hl.1 rfl rfl ⟨by omega, by omega⟩ ⟨by omega, by omega⟩ (Nat.le_of_ble_eq_true rfl) (fun H locs hM hS => ?_)
  refine lv_sipush (v := -1001) hx hb dL_law_12 (by decide) ?_
  refine lv_icmp_ne (tgt := 54) hx hb dL_law_15 (by decide) (fun h => absurd rfl h) (fun _ => ?_)
  have k2 := h_restore l hlf g (putC g (fun _ => none) x cs0) x cs0 ClsAt.put
  rw [putC_putC, show v_restore cs0 = -1001 from if_neg (fun q => q rfl), show s_restore cs0 = cs0 from if_neg (fun q => q rfl)] at k2
  refine lv_aload_n hx hb dL_law_18 rfl (lv_at hl 0 rfl) ?_
  refine k_SX1 hc [.ref x] cw_L_296 dL_law_19 k2 hM hS hl.1 rfl rfl ⟨by omega, by omega⟩ ⟨by omega, by omega⟩ (Nat.le_of_ble_eq_true rfl) (fun H locs hM hS => ?_)
  refine lv_sipush (v := -1001) hx hb dL_law_22 (by decide) ?_
  refine lv_icmp_ne (tgt := 54) hx hb dL_law_25 (by decide) (fun h => absurd rfl h) (fun _ => ?_)
  refine lv_aload_n hx hb dL_law_28 rfl (lv_at hl 0 rfl) ?_
  refine k_V1 hc [] cw_L_298 (ci := 7) rfl dL_law_29 (c_X5_save l hlf g (putC g (fun _ => none) x cs0) x cs0 ClsAt.put) (ClsAt.put (g := g) (M := fun _ => none) (x := x) (cs := cs0)).o hM hS hl.1 rfl rfl ⟨by omega, by omega⟩ ⟨by omega, by omega⟩ (Nat.le_of_ble_eq_true rfl) (fun H locs hM hS => ?_)
  rw [putC_putC] at hM
  refine lv_if_ne (tgt := 54) hx hb dL_law_32 (by decide) (fun h => absurd rfl h) (fun _ => ?_)
  have hE0 : ES 0 0 E0 (upS (upC cs0 2 (cs0 0)) 7 1) := ⟨by rw [upS_f (by omega), upC_ne (by omega)]; rfl, aux_0.st (by rw [upS_r (by omega), upC_ne (by omega)]) (by rw [upS_r (by omega), upC_ne (by omega)]) (by rw [upS_s (by omega), upC_ne (by omega)]) (by rw [upS_s (by omega), upC_ne (by omega)]), ⟨by omega, by omega, by rw [upS_s (by omega), upC_ne (by omega)]; rfl, by rw [upS_s (by omega), upC_ne (by omega)]; rfl⟩, by rw [upS_f (by omega), upC_at]; rfl, by unfold upS; rw [upC_at, up2_at]⟩
  generalize upS (upC cs0 2 (cs0 0)) 7 1 = c1 at *
  have k3 := h_hours l hlf g (putC g (fun _ => none) x c1) x c1 48 ClsAt.put hE0.2.2.1.ok
  have r3 : phO (c1 0) 48 = phO E0 48 := by rw [hE0.1]
  obtain ⟨q3, hE1, hn1, -⟩ := es_ok (w := 0) hE0 (r3.trans ok_1) (by omega)
  have hE1 : ES 1 1 E1 (s_hours c1 48) := hE1
  have hn1 : s_hours c1 48 (3 + 0) = E0 := hn1
  rw [putC_putC, show v_hours c1 48 = 0 from q3] at k3
  refine lv_aload_n hx hb dL_law_35 rfl (lv_at hl 0 rfl) ?_
  refine lv_bipush (v := 48) hx hb dL_law_36 (by decide) ?_
  refine k_SX1 hc [.ref x, .int 48] cw_L_183 dL_law_38 k3 hM hS hl.1 rfl rfl ⟨by omega, by omega⟩ ⟨by omega, by omega⟩ (Nat.le_of_ble_eq_true rfl) (fun H locs hM hS => ?_)
  refine lv_if_ne (tgt := 54) hx hb dL_law_41 (by decide) (fun h => absurd rfl h) (fun _ => ?_)
  generalize s_hours c1 48 = c2 at *
  have k4 := h_account l hlf g (putC g (fun _ => none) x c2) x c2 0 ClsAt.put
  rw [show v_account c2 0 = 48 from by rw [ac_0, hE1.1]; decide +kernel] at k4
  refine lv_aload_n hx hb dL_law_44 rfl (lv_at hl 0 rfl) ?_
  refine lv_iconst (v := 0) hx hb dL_law_45 (by decide) ?_
  refine k_SX1 hc [.ref x, .int 0] cw_L_205 dL_law_46 k4 hM hS hl.1 rfl rfl ⟨by omega, by omega⟩ ⟨by omega, by omega⟩ (Nat.le_of_ble_eq_true rfl) (fun H locs hM hS => ?_)
  refine lv_bipush (v := 48) hx hb dL_law_49 (by decide) ?_
  refine lv_icmp_eq (tgt := 56) hx hb dL_law_51 (by decide) (fun _ => ?_) (fun h => absurd rfl h)
  refine lv_iconst (v := 0) hx hb dL_law_56 (by decide) ?_
  refine lv_istore_n (lv' := [(2, .int (nI 0)), (1, .ref x), (0, .ref (gSb g))]) hx hb dL_law_57 rfl hl (by decide) rfl (fun ls hl => ?_)
  have hz := hE1.2.1.2
  refine W.widen (k := (cells + 300) + 3 * 0) (n := (slots + 10000) + 18 * 0) (by omega) (by omega) (er_apps (c0 := cells + 300) (s0 := slots + 10000) (cs := c2) hc hlf hfr hlo hz (by omega) (by omega) (fun H locs ls hM hS hl => ?_) (60 + 1) 0 H locs ls (by omega) (by omega) hM hS hl)
  obtain ⟨t1, t2⟩ := bad_text (b := ab) (L := 60) hz (by omega) (by omega) rfl
  obtain ⟨w1, w2, w3, w4, w5, w6, w7⟩ := txS_f (b := ab) hz 60 (by omega)
  have hrd := read_cases (b := ab) (L := 60) (n := 48) (nx := 1) (sz := 1) (c := c2) (by rw [hE1.1]; exact gi_1) (by omega) hE1.2.1 hE1.2.2.1 (by omega) (fun k hk => ab_ok k hk)
  have hrf : Rfd c2 (s_commands (txS ab c2 60)) := by
    rcases hrd with ⟨w, fl, hw, hv, -⟩ | ⟨-, h⟩
    · rw [t1] at hv
      exact absurd (show nI w < 0 by rw [← hv]; decide) (nI_pos hw)
    · exact h
  have k5 := h_append l hlf g (putC g (fun _ => none) x (txS ab c2 60)) x (txS ab c2 60) 119 ClsAt.put rfl
  have hfull : ¬ txS ab c2 60 11 3 1 < nI 60 := by rw [w1]; exact Int32.lt_irrefl
  rw [show v_append (txS ab c2 60) 119 = -1001 from if_neg hfull, show s_append (txS ab c2 60) 119 = txS ab c2 60 from if_neg hfull, putC_putC] at k5
  refine lv_aload_n hx hb dL_law_87 rfl (lv_at hl 0 rfl) ?_
  refine lv_bipush (v := 119) hx hb dL_law_88 (by decide) ?_
  refine k_SX1 hc [.ref x, .int 119] cw_L_150 dL_law_90 k5 hM hS hl.1 rfl rfl ⟨by omega, by omega⟩ ⟨by omega, by omega⟩ (Nat.le_of_ble_eq_true rfl) (fun H locs hM hS => ?_)
  refine lv_sipush (v := -1001) hx hb dL_law_93 (by decide) ?_
  refine lv_icmp_ne (tgt := 136) hx hb dL_law_96 (by decide) (fun h => absurd rfl h) (fun _ => ?_)
  have a16 : ∀ c9 : CS, v_account c9 16 = c9 11 3 1 := fun c9 => ac_v (k := 16) (by decide) _ (by show acV c9 (nI 16) = _; unfold acV; rw [if_neg (by decide), if_neg (by decide), if_neg (by decide), if_neg (by decide), if_neg (by decide), if_neg (by decide), if_neg (by decide), if_neg (by decide), if_neg (by decide), if_neg (by decide), if_neg (by decide), if_neg (by decide), if_neg (by decide), if_neg (by decide), if_neg (by decide), if_neg (by decide)])
  have k6 := h_account l hlf g (putC g (fun _ => none) x (txS ab c2 60)) x (txS ab c2 60) 16 ClsAt.put
  rw [a16, w1] at k6
  refine lv_aload_n hx hb dL_law_99 rfl (lv_at hl 0 rfl) ?_
  refine lv_bipush (v := 16) hx hb dL_law_100 (by decide) ?_
  refine k_SX1 hc [.ref x, .int 16] cw_L_205 dL_law_102 k6 hM hS hl.1 rfl rfl ⟨by omega, by omega⟩ ⟨by omega, by omega⟩ (Nat.le_of_ble_eq_true rfl) (fun H locs hM hS => ?_)
  refine lv_bipush (v := 60) hx hb dL_law_105 (by decide) ?_
  refine lv_icmp_ne (tgt := 136) hx hb dL_law_107 (by decide) (fun h => absurd rfl h) (fun _ => ?_)
  have k7 := h_commands l hlf g (putC g (fun _ => none) x (txS ab c2 60)) x (txS ab c2 60) ClsAt.put (nxOk_of hE1.2.2.1.ok (w5 6 (by omega))) (w7 hE1.2.1.1.1 (fun k hk => ab_ok k hk))
  rw [putC_putC, t1] at k7
  refine lv_aload_n hx hb dL_law_110 rfl (lv_at hl 0 rfl) ?_
  refine k_SX1 hc [.ref x] cw_L_155 dL_law_111 k7 hM hS hl.1 rfl rfl ⟨by omega, by omega⟩ ⟨by omega, by omega⟩ (Nat.le_of_ble_eq_true rfl) (fun H locs hM hS => ?_)
  refine lv_sipush (v := -1001) hx hb dL_law_114 (by decide) ?_
  refine lv_icmp_ne (tgt := 136) hx hb dL_law_117 (by decide) (fun h => absurd rfl h) (fun _ => ?_)
  have hE3 := es_rf hE1 hrf
  have hn3 : s_commands (txS ab c2 60) (3 + 0) = E0 := (hrf.2.1.2.1 0 (by omega)).trans hn1
  generalize s_commands (txS ab c2 60) = c3 at *
  refine lv_aload_n hx hb dL_law_120 rfl (lv_at hl 0 rfl) ?_
  refine k_V1 hc [] cw_L_288 (ci := 7) rfl dL_law_121 (c_X5_faultPosition l hlf g (putC g (fun _ => none) x c3) x c3 ClsAt.put) (ClsAt.put (g := g) (M := fun _ => none) (x := x) (cs := c3)).o hM hS hl.1 rfl rfl ⟨by omega, by omega⟩ ⟨by omega, by omega⟩ (Nat.le_of_ble_eq_true rfl) (fun H locs hM hS => ?_)
  rw [t2]
  refine lv_if_ne (tgt := 136) hx hb dL_law_124 (by decide) (fun h => absurd rfl h) (fun _ => ?_)
  have k8 := h_account l hlf g (putC g (fun _ => none) x c3) x c3 16 ClsAt.put
  rw [a16, hE3.2.1.2] at k8
  refine lv_aload_n hx hb dL_law_127 rfl (lv_at hl 0 rfl) ?_
  refine lv_bipush (v := 16) hx hb dL_law_128 (by decide) ?_
  refine k_SX1 hc [.ref x, .int 16] cw_L_205 dL_law_130 k8 hM hS hl.1 rfl rfl ⟨by omega, by omega⟩ ⟨by omega, by omega⟩ (Nat.le_of_ble_eq_true rfl) (fun H locs hM hS => ?_)
  refine lv_if_eq (tgt := 138) hx hb dL_law_133 (by decide) (fun _ => ?_) (fun h => absurd rfl h)
  exact W.widen (by omega) (by omega) (kk x c3 H locs ls hE3 hn3 hM hS hl)
end ER0
section ERH
variable {p : Program} {l : Launch} {e : Env} {R : Room} {s : State} {m : MethodId} {args : Array Value} {below : List Frame} {meth : Method} {c : Code} {H : Heap} {locs : List Loc} {cells slots : Nat} {Q : State → Prop}
variable {ls : Array Slot} {g : GC} {M : HM} {x : Nat}
theorem er_half (hc : Cx g p l s m args meth c cL_law 11 RL) (hlf : l.stackTraces = false) (hfr : 20 ≤ R.frames) (hlo : 1300 ≤ R.locals) (hce : cells + 12000 ≤ R.cells) (hse : slots + 90000 ≤ R.slots) (hS : va_S (gA g) s.heap H locs) (hl : lv_has ls 11 [(0, .ref (gSb g))])
    (kk : ∀ (H : Heap) (locs : List Loc) (ls : Array Slot), va_S (gA g) s.heap H locs → lv_has ls 11 [(0, .ref (gSb g))] → W p l e R s m args below meth c H locs (cells + 12000) (slots + 90000) Q (F0 m 820 ls [])) : W p l e R s m args below meth c H locs cells slots Q (F0 m 0 ls []) := by
  refine er_0 hc hlf hfr hlo (by omega) (by omega) hS hl (fun x c1 H locs ls hE h1 hM hS hl => ?_)
  refine er_1 hc hlf hfr hlo hE h1 (by omega) (by omega) hM hS hl (fun c2 H locs ls hE h0_0 h0_1 hM hS hl => ?_)
  refine er_2 hc hlf hfr hlo hE h0_0 h0_1 (by omega) (by omega) hM hS hl (fun c3 H locs ls hE h1_0 h1_1 hM hS hl => ?_)
  refine er_3 hc hlf hfr hlo hE h1_0 h1_1 (by omega) (by omega) hM hS hl (fun c4 H locs ls hE h2_0 h2_1 hM hS hl => ?_)
  refine er_4 hc hlf hfr hlo hE h2_0 h2_1 (by omega) (by omega) hM hS hl (fun c5 H locs ls hE h3_0 h3_1 hM hS hl => ?_)
  refine er_5 hc hlf hfr hlo hE h3_0 h3_1 (by omega) (by omega) hM hS hl (fun c6 H locs ls hE  hM hS hl => ?_)
  exact W.widen (by omega) (by omega) (kk H locs ls hS (lv_sub hl [1] rfl))
end ERH
