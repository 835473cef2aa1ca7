/-! the undos; the end -/
def Und (F0 : FL) (done : Nat) (f : Nat → Int64) (nx0 sz0 j : Nat) (c : CS) : Prop := (∃ n, GI n (c 0)) ∧ Aux c ∧ c 2 = F0 ∧ c 11 3 7 = 1 ∧ Rg (bck nx0 j) (sz0 - j) c ∧ ∀ k, j < k → k ≤ min 8 done → ∃ n9, GI n9 (c (3 + bck nx0 k)) ∧ aQ (c (3 + bck nx0 k)) (f (done - k))
theorem Und.rfd {F0 : FL} {done : Nat} {f : Nat → Int64} {nx0 sz0 j : Nat} {a b : CS} (h : Und F0 done f nx0 sz0 j a) (k : Rfd a b) : Und F0 done f nx0 sz0 j b := by
  obtain ⟨hG, hA, h2, h7, hR, hh⟩ := h
  refine ⟨by rw [k.1]; exact hG, k.2.2, k.2.1.1.trans h2, k.2.1.2.2.2.2.trans h7, hR.keep k.2.1, fun j j1 j2 => ?_⟩
  rw [k.2.1.2.1 _ (by unfold bck; omega)]
  exact hh j j1 j2
theorem bck_prv {nx j : Nat} (h : nx < 8) (hj : j < 8) : prv (bck nx j) = bck nx (j + 1) := by unfold prv bck; split <;> omega
theorem Und.go {F0 : FL} {done : Nat} {f : Nat → Int64} {nx0 sz0 j : Nat} {c : CS} (hnx : nx0 < 8) (h : Und F0 done f nx0 sz0 j c) (hj : j < min 8 done) (hs : min 8 done ≤ sz0) : v_undo c = nI (sz0 - (j + 1)) ∧ Und F0 done f nx0 sz0 (j + 1) (s_undo c) ∧ aQ (s_undo c 0) (f (done - (j + 1))) := by
  obtain ⟨hG, hA, h2, h7, hR, hh⟩ := h
  obtain ⟨u1, u2, u3, u4, u5, u6⟩ := undo_ok hR (by omega)
  rw [bck_prv hnx (by omega)] at u2 u4
  obtain ⟨n9, hg9, hq9⟩ := hh (j + 1) (by omega) (by omega)
  refine ⟨by rw [u1, show sz0 - j - 1 = sz0 - (j + 1) by omega], ⟨⟨n9, by rw [u2]; exact hg9⟩, hA.st (u5 1 (by omega)) (u5 2 (by omega)) (u6 4 (by omega) (by omega)) (u6 1 (by omega) (by omega)), (u3 2 (by omega) (by omega)).trans h2, (u6 7 (by omega) (by omega)).trans h7, by rw [show sz0 - (j + 1) = sz0 - j - 1 by omega]; exact u4, fun k k1 k2 => ?_⟩, by rw [u2]; exact hq9⟩
  rw [u3 _ (by omega) (by unfold bck; omega)]
  exact hh k (by omega) k2
theorem sub_nI {a b : Nat} (h : b ≤ a) (ha : a < 2 ^ 31) : nI a - nI b = nI (a - b) := by
  have e : nI a = nI (a - b) + nI b := by rw [nI_add, Nat.sub_add_cancel h]
  rw [e, Int32.add_sub_cancel]
theorem min_8 : ∀ d : Nat, d < 13 → minI 8 (nI d) = nI (min 8 d) := by decide +kernel
theorem fi_0 : FI 0 0 0 0 0 5 60 (cs0 0) := ⟨⟨by omega, by omega, by omega, by omega, by omega, by omega, by omega⟩, ⟨rfl, rfl, rfl, rfl, rfl, rfl, rfl, rfl, rfl⟩, rfl, rfl, rfl, fun k hk => absurd hk (Nat.not_lt_zero _), fun k hk => absurd hk (Nat.not_lt_zero _), fun j hj => ⟨0, by omega, by show (if j < 30 then (-1 : Int32) else 0) = _; rw [if_pos hj]; rfl⟩, fun k hk => absurd hk (Nat.not_lt_zero _)⟩
theorem aux_0 : Aux cs0 := ⟨⟨fun k => by show chOk 0; rfl, fun k => by show chOk 0; rfl, by decide, by decide⟩, rfl⟩
section OR2
variable {p : Program} {l : Launch} {e : Env} {R : Room} {s : State} {m : MethodId} {args : Array Value} {below : List Frame} {meth : Method} {c : Code} {H : Heap} {locs : List Loc} {cells slots : Nat} {Q : State → Prop}
variable {ls : Array Slot} {rest : List Value} {g : GC} {M N : HM} {x : Nat}
theorem k_newJX (hc : Cx g p l s m args meth c cL_law 11 RL) {pc N' : Nat} {n : Int32} (hn : ¬ n < 0) (hN : n.toNatClampNeg = N') (hbytes : N' * 8 ≤ 536870912) (hdg : decode cL_law pc = .ok (.newarray .long, 2))
    (hM : hR g M H) (hS : va_S (gA g) s.heap H locs) (hcells : cells + 1 ≤ R.cells) (hslots : slots + N' ≤ R.slots)
    (kk : ∀ (q : Nat) (H1 : Heap), M q = none → hR g (upM M q (.inl (gJ g, N', .inr (.inl (fun _ => 0))))) H1 → va_S (gA g) s.heap H1 locs → W p l e R s m args below meth c H1 locs (cells + 1) (slots + N') Q (F0 m (pc + 2) ls (.ref q :: rest))) : W p l e R s m args below meth c H locs cells slots Q (F0 m pc ls (.int n :: rest)) := by
  obtain ⟨hexec, hb, hml, hown, hts, hE, hlk, hst0⟩ := hc
  have harr : Cond.arrayClass (newarray.typeOf .long) ∈ lw_all := qa_long
  refine va_newaK hexec hb (hts _ harr) rfl hdg rfl hn hN hbytes hcells hslots rfl fun H1 cB e1 z1 o1 hAr hNm => ?_
  have hcB : cB = gJ g := Option.some.inj (hNm.symm.trans (hE.1.2 1 _ rfl).2)
  subst hcB
  have hno : M H.size = none := by
    cases h : M H.size with
    | none => rfl
    | some e => exact absurd (hM.lt h) (by omega)
  refine kk H.size H1 hno (hM.push rfl (Nat.le_trans hE.2.1 hS.1) ?_ o1) ⟨Nat.le_trans hS.1 (by omega), fun x h1 h2 => (o1 x (by have := hS.1; omega)).trans (hS.2.1 x h1 h2), hS.2.2⟩
  show H1[H.size]? = some (vp_cell _ _)
  rw [vp_cell_l]
  exact e1
set_option maxHeartbeats 4000000 in
theorem or_undos (hc : Cx g p l s m args meth c cL_law 11 RL) (hlf : l.stackTraces = false) (hfr : 20 ≤ R.frames) (hlo : 1300 ≤ R.locals) {c0 s0 w done nx0 sz0 : Nat} {f : Nat → Int64} {F0f : FL} {hr : Int32} {sum : Int64} (hw : ¬ (x ≤ w ∧ w < x + 196)) (hNw : N w = some (.inl (gJ g, 13, .inr (.inl f)))) (hd : done ≤ 12) (hnx : nx0 < 8) (hsz : sz0 ≤ 8) (hs : min 8 done ≤ sz0) (hce : c0 + 2003 * 8 ≤ R.cells) (hse : s0 + 12018 * 8 ≤ R.slots)
    (kk : ∀ (c9 : CS) (H : Heap) (locs : List Loc) (ls : Array Slot), Und F0f done f nx0 sz0 (min 8 done) c9 → hR g (putC g N x c9) H → va_S (gA g) s.heap H locs → lv_has ls 11 [(5, .int hr), (3, .long sum), (2, .ref x)] → W p l e R s m args below meth c H locs (c0 + 2003 * 8) (s0 + 12018 * 8) Q (F0 m 1102 ls [])) :
    ∀ (D j : Nat) (c9 : CS) (H : Heap) (locs : List Loc) (ls : Array Slot), min 8 done - j < D → j ≤ min 8 done → Und F0f done f nx0 sz0 j c9 → hR g (putC g N x c9) H → va_S (gA g) s.heap H locs → lv_has ls 11 [(9, .int (nI (j + 1))), (8, .int (nI (min 8 done))), (7, .int (nI done)), (6, .ref w), (5, .int hr), (3, .long sum), (2, .ref x)] → W p l e R s m args below meth c H locs (c0 + 2003 * j) (s0 + 12018 * j) Q (F0 m 1045 ls []) := by
  have hx := hc.1
  have hb := hc.2.1
  intro D
  induction D with
  | zero => intro j c9 H locs ls hD; exact absurd hD (Nat.not_lt_zero _)
  | succ D ih =>
    intro j c9 H locs ls hD hj hU hM hS hl
    refine lv_iload hx hb dL_law_1045 (lv_at hl 0 rfl) ?_
    refine lv_iload hx hb dL_law_1047 (lv_at hl 1 rfl) ?_
    by_cases hk9 : j = min 8 done
    · refine lv_icmp_gt (tgt := 1102) hx hb dL_law_1049 (by decide) (fun _ => ?_) (fun h => absurd (nI_lt (a := min 8 done) (b := j + 1) (by omega) (by omega)) h)
      subst hk9
      exact W.widen (by omega) (by omega) (kk c9 H locs ls hU hM hS (lv_sub hl [4, 5, 6] rfl))
    refine lv_icmp_gt (tgt := 1102) hx hb dL_law_1049 (by decide) (fun h => absurd (show nI (min 8 done) < nI (j + 1) from h) (nI_nlt (a := min 8 done) (b := j + 1) (by omega) (by omega))) (fun _ => ?_)
    obtain ⟨u1, u2, u3⟩ := hU.go hnx (by omega) hs
    have k1 := h_undo l hlf g (putC g N x c9) x c9 ClsAt.put hU.2.2.2.2.1.ok
    rw [putC_putC, u1] at k1
    refine lv_aload_n hx hb dL_law_1052 rfl (lv_at hl 6 rfl) ?_
    refine k_SX1 hc [.ref x] cw_L_294 dL_law_1053 k1 hM hS hl.1 rfl rfl ⟨by omega, by omega⟩ ⟨by omega, by omega⟩ (Nat.le_of_ble_eq_true rfl) (fun H locs hM hS => ?_)
    refine lv_istore (lv' := [(10, .int (nI (sz0 - (j + 1)))), (9, .int (nI (j + 1))), (8, .int (nI (min 8 done))), (7, .int (nI done)), (6, .ref w), (5, .int hr), (3, .long sum), (2, .ref x)]) hx hb dL_law_1056 hl (by decide) rfl (fun ls hl => ?_)
    refine lv_iload hx hb dL_law_1058 (lv_at hl 0 rfl) ?_
    refine lv_iload hx hb dL_law_1060 (lv_at hl 2 rfl) ?_
    refine lv_iload hx hb dL_law_1062 (lv_at hl 1 rfl) ?_
    refine lv_isub hx hb dL_law_1064 ?_
    rw [sub_nI (a := min 8 done) (b := j + 1) (by omega) (by omega)]
    refine lv_icmp_lt (tgt := 1094) hx hb dL_law_1065 (by decide) (fun h => absurd h (nI_nlt (a := sz0 - (j + 1)) (b := min 8 done - (j + 1)) (by omega) (by omega))) (fun _ => ?_)
    refine lv_iload hx hb dL_law_1068 (lv_at hl 0 rfl) ?_
    refine lv_bipush (v := 8) hx hb dL_law_1070 (by decide) ?_
    refine lv_iload hx hb dL_law_1072 (lv_at hl 1 rfl) ?_
    refine lv_isub hx hb dL_law_1074 ?_
    rw [show (8 : Int32) - nI (j + 1) = nI (8 - (j + 1)) from sub_nI (a := 8) (b := j + 1) (by omega) (by omega)]
    refine lv_icmp_gt (tgt := 1094) hx hb dL_law_1075 (by decide) (fun h => absurd (show nI (8 - (j + 1)) < nI (sz0 - (j + 1)) from h) (nI_nlt (a := 8 - (j + 1)) (b := sz0 - (j + 1)) (by omega) (by omega))) (fun _ => ?_)
    obtain ⟨n9, hg9⟩ := u2.1
    obtain ⟨V, c1, kA, aA, rA⟩ := asks_any l hlf g (putC g N x (s_undo c9)) x (s_undo c9) ClsAt.put hg9 u2.2.1
    rw [putC_putC] at kA
    obtain rfl : V = f (done - (j + 1)) := aA.uniq u3
    refine lv_aload_n hx hb dL_law_1078 rfl (lv_at hl 7 rfl) ?_
    refine k_S1 hc [.ref x] cw_L_278 dL_law_1079 kA hM hS hl.1 rfl rfl ⟨by omega, by omega⟩ ⟨by omega, by omega⟩ (Nat.le_of_ble_eq_true rfl) (fun H locs hM hS => ?_)
    refine lv_aload hx hb dL_law_1082 (lv_at hl 4 rfl) ?_
    refine lv_iload hx hb dL_law_1084 (lv_at hl 3 rfl) ?_
    refine lv_iload hx hb dL_law_1086 (lv_at hl 1 rfl) ?_
    refine lv_isub hx hb dL_law_1088 ?_
    rw [sub_nI (a := done) (b := j + 1) (by omega) (by omega)]
    refine k_lald hc hM (a := w) (n := 13) (f := f) (by unfold putC; rw [if_neg hw]; exact hNw) (vp_in_nI (show done - (j + 1) < 13 by omega) (by omega)) dL_law_1089 ?_
    rw [nI_clamp (by omega)]
    refine lv_lcmp hx hb dL_law_1090 ?_
    rw [lc_eq]
    refine lv_if_eq (tgt := 1096) hx hb dL_law_1091 (by decide) (fun _ => ?_) (fun h => absurd rfl h)
    refine lv_iinc (v := nI (j + 1 + 1)) (lv' := [(9, .int (nI (j + 1 + 1))), (10, .int (nI (sz0 - (j + 1)))), (8, .int (nI (min 8 done))), (7, .int (nI done)), (6, .ref w), (5, .int hr), (3, .long sum), (2, .ref x)]) hx hb dL_law_1096 hl (k := 1) rfl (k_inc1 _) (by decide) rfl (fun ls hl => ?_)
    refine lv_goto (tgt := 1045) hx hb dL_law_1099 (by decide) ?_
    exact W.widen (k := c0 + 2003 * (j + 1)) (n := s0 + 12018 * (j + 1)) (by omega) (by omega) (ih (j + 1) c1 H locs ls (by omega) (by omega) (u2.rfd rA) hM hS (lv_sub hl [0, 2, 3, 4, 5, 6, 7] rfl))
/-- what was saved comes back -/
def Bk (F0 : FL) (c : CS) : Prop := (∃ n, GI n F0) ∧ Aux c ∧ c 2 = F0 ∧ c 11 3 7 = 1 ∧ nxOk c
theorem Bk.rfd {F0 : FL} {a b : CS} (h : Bk F0 a) (k : Rfd a b) : Bk F0 b := ⟨h.1, k.2.2, k.2.1.1.trans h.2.2.1, k.2.1.2.2.2.2.trans h.2.2.2.1, nxOk_of h.2.2.2.2 k.2.1.2.2.2.1⟩
theorem Bk.go {F0 : FL} {c : CS} (h : Bk F0 c) : v_restore c = F0 9 1 ∧ Bk F0 (s_restore c) ∧ s_restore c 0 = F0 ∧ s_restore c 11 3 5 = 0 := by
  obtain ⟨hG, hA, h2, h7, hnx⟩ := h
  obtain ⟨e1, e2⟩ := rest_ok h7
  rw [e1, e2, h2]
  refine ⟨rfl, ⟨hG, hA.st ?_ ?_ ?_ ?_, ?_, ?_, nxOk_of hnx ?_⟩, ?_, ?_⟩
  · rw [upS_r (by omega), upC_ne (by omega)]
  · rw [upS_r (by omega), upC_ne (by omega)]
  · rw [upS_s (by omega), upC_ne (by omega)]
  · rw [upS_s (by omega), upC_ne (by omega)]
  · rw [upS_f (by omega), upC_ne (by omega)]; exact h2
  · rw [upS_s (by omega), upC_ne (by omega)]; exact h7
  · rw [upS_s (by omega), upC_ne (by omega)]
  · rw [upS_f (by omega), upC_at]
  · unfold upS
    rw [upC_at, up2_at]
set_option maxHeartbeats 4000000 in
theorem or_end (hc : Cx g p l s m args meth c cL_law 11 RL) (hlf : l.stackTraces = false) (hfr : 20 ≤ R.frames) (hlo : 1300 ≤ R.locals) {F0f : FL} {sum : Int64} {c9 : CS} (hsum : aQ F0f sum) (hB : Bk F0f c9) (hce : cells + 4020 ≤ R.cells) (hse : slots + 24120 ≤ R.slots) (hM : hR g (putC g N x c9) H) (hS : va_S (gA g) s.heap H locs) (hl : lv_has ls 11 [(5, .int (F0f 9 1)), (3, .long sum), (2, .ref x)])
    (kk : ∀ (H : Heap) (locs : List Loc) (ls : Array Slot), va_S (gA g) s.heap H locs → W p l e R s m args below meth c H locs (cells + 4020) (slots + 24120) Q (F0 m 1153 ls [.int 1])) : W p l e R s m args below meth c H locs cells slots Q (F0 m 1102 ls []) := by
  have hx := hc.1
  have hb := hc.2.1
  obtain ⟨r1, r2, r3, r4⟩ := hB.go
  have k1 := h_restore l hlf g (putC g N x c9) x c9 ClsAt.put
  rw [putC_putC, r1] at k1
  refine lv_aload_n hx hb dL_law_1102 rfl (lv_at hl 2 rfl) ?_
  refine k_SX1 hc [.ref x] cw_L_296 dL_law_1103 k1 hM hS hl.1 rfl rfl ⟨by omega, by omega⟩ ⟨by omega, by omega⟩ (Nat.le_of_ble_eq_true rfl) (fun H locs hM hS => ?_)
  refine lv_iload hx hb dL_law_1106 (lv_at hl 0 rfl) ?_
  refine lv_icmp_ne (tgt := 1152) hx hb dL_law_1108 (by decide) (fun h => absurd rfl h) (fun _ => ?_)
  generalize s_restore c9 = c1 at *
  obtain ⟨u1, u2⟩ := undo_no r4
  have k2 := h_undo l hlf g (putC g N x c1) x c1 ClsAt.put r2.2.2.2.2
  rw [putC_putC, u1, u2] at k2
  refine lv_aload_n hx hb dL_law_1111 rfl (lv_at hl 2 rfl) ?_
  refine k_SX1 hc [.ref x] cw_L_294 dL_law_1112 k2 hM hS hl.1 rfl rfl ⟨by omega, by omega⟩ ⟨by omega, by omega⟩ (Nat.le_of_ble_eq_true rfl) (fun H locs hM hS => ?_)
  refine lv_sipush (v := -1001) hx hb dL_law_1115 (by decide) ?_
  refine lv_icmp_ne (tgt := 1152) hx hb dL_law_1118 (by decide) (fun h => absurd rfl h) (fun _ => ?_)
  obtain ⟨n9, hg9⟩ := hB.1
  obtain ⟨V, c2, kA, aA, rA⟩ := asks_any l hlf g (putC g N x c1) x c1 ClsAt.put (show GI n9 (c1 0) by rw [r3]; exact hg9) r2.2.1
  rw [putC_putC] at kA
  obtain rfl : V = sum := aA.uniq (by rw [r3]; exact hsum)
  refine lv_aload_n hx hb dL_law_1121 rfl (lv_at hl 2 rfl) ?_
  refine k_S1 hc [.ref x] cw_L_278 dL_law_1122 kA hM hS hl.1 rfl rfl ⟨by omega, by omega⟩ ⟨by omega, by omega⟩ (Nat.le_of_ble_eq_true rfl) (fun H locs hM hS => ?_)
  refine lv_lload_n hx hb dL_law_1125 rfl (lv_at hl 1 rfl) ?_
  refine lv_lcmp hx hb dL_law_1126 ?_
  rw [lc_eq]
  refine lv_if_ne (tgt := 1152) hx hb dL_law_1127 (by decide) (fun h => absurd rfl h) (fun _ => ?_)
  have hB2 := r2.rfd rA
  obtain ⟨r1, r2, r3, r4⟩ := hB2.go
  have k3 := h_restore l hlf g (putC g N x c2) x c2 ClsAt.put
  rw [putC_putC, r1] at k3
  refine lv_aload_n hx hb dL_law_1130 rfl (lv_at hl 2 rfl) ?_
  refine k_SX1 hc [.ref x] cw_L_296 dL_law_1131 k3 hM hS hl.1 rfl rfl ⟨by omega, by omega⟩ ⟨by omega, by omega⟩ (Nat.le_of_ble_eq_true rfl) (fun H locs hM hS => ?_)
  refine lv_iload hx hb dL_law_1134 (lv_at hl 0 rfl) ?_
  refine lv_icmp_ne (tgt := 1152) hx hb dL_law_1136 (by decide) (fun h => absurd rfl h) (fun _ => ?_)
  generalize s_restore c2 = c3 at *
  obtain ⟨V2, c4, kB, aB, rB⟩ := asks_any l hlf g (putC g N x c3) x c3 ClsAt.put (show GI n9 (c3 0) by rw [r3]; exact hg9) r2.2.1
  rw [putC_putC] at kB
  obtain rfl : V2 = V := aB.uniq (by rw [r3]; exact hsum)
  refine lv_aload_n hx hb dL_law_1139 rfl (lv_at hl 2 rfl) ?_
  refine k_S1 hc [.ref x] cw_L_278 dL_law_1140 kB hM hS hl.1 rfl rfl ⟨by omega, by omega⟩ ⟨by omega, by omega⟩ (Nat.le_of_ble_eq_true rfl) (fun H locs hM hS => ?_)
  refine lv_lload_n hx hb dL_law_1143 rfl (lv_at hl 1 rfl) ?_
  refine lv_lcmp hx hb dL_law_1144 ?_
  rw [lc_eq]
  refine lv_if_ne (tgt := 1152) hx hb dL_law_1145 (by decide) (fun h => absurd rfl h) (fun _ => ?_)
  refine lv_iconst (v := 1) hx hb dL_law_1148 (by decide) ?_
  refine lv_goto (tgt := 1153) hx hb dL_law_1149 (by decide) ?_
  exact W.widen (by omega) (by omega) (kk H locs ls hS)
set_option maxHeartbeats 4000000 in
set_option maxRecDepth 100000 in
theorem or_half (hc : Cx g p l s m args meth c cL_law 11 RL) (hlf : l.stackTraces = false) (hfr : 20 ≤ R.frames) (hlo : 1300 ≤ R.locals) (hce : cells + 90000 ≤ R.cells) (hse : slots + 560000 ≤ R.slots) (hS : va_S (gA g) s.heap H locs) (hl : lv_has ls 11 [(0, .ref (gSb g))])
    (kk : ∀ (H : Heap) (locs : List Loc) (ls : Array Slot), va_S (gA g) s.heap H locs → W p l e R s m args below meth c H locs (cells + 90000) (slots + 560000) Q (F0 m 1153 ls [.int 1])) : W p l e R s m args below meth c H locs cells slots Q (F0 m 820 ls []) := by
  have hx := hc.1
  have hb := hc.2.1
  refine k_mkObj hc hlf dL_law_820 dL_law_823 dL_law_824 hS hl.1 hfr hlo (by omega) (by omega) (fun x H locs hM hS => ?_)
  refine lv_astore_n (lv' := [(2, .ref x), (0, .ref (gSb g))]) hx hb dL_law_827 rfl hl (by decide) rfl (fun ls hl => ?_)
  have hmk0 : Mk 0 0 0 0 0 cs0 := ⟨5, 60, 0, 0, fi_0, aux_0, ⟨by omega, by omega, rfl, rfl⟩, fun k hk => absurd hk (Nat.not_lt_zero _)⟩
  refine lv_aload_n hx hb dL_law_828 rfl (lv_at hl 0 rfl) ?_
  refine lv_aload_n hx hb dL_law_829 rfl (lv_at hl 1 rfl) ?_
  refine k_S1v hc [.ref x, .ref (gSb g)] cw_L_301 dL_law_830 (c_L_makes l hlf g (putC g (fun _ => none) x cs0) x cs0 ClsAt.put hmk0) hM hS hl.1 rfl rfl ⟨by omega, by omega⟩ ⟨by omega, by omega⟩ (Nat.le_of_ble_eq_true rfl) (fun v9 M9 H locs hs hM hS => ?_)
  obtain ⟨rfl, c1, t, ht, rfl, hm1⟩ := hs
  rw [putC_putC] at hM
  refine lv_if_ne (tgt := 838) hx hb dL_law_833 (by decide) (fun _ => ?_) (fun h => absurd h (by decide))
  refine lv_iconst (v := 0) hx hb dL_law_838 (by decide) ?_
  refine lv_istore_n (lv' := [(3, .int (nI 0)), (2, .ref x), (0, .ref (gSb g))]) hx hb dL_law_839 rfl hl (by decide) rfl (fun ls hl => ?_)
  refine W.widen (k := (cells + 400) + 4 * 0) (n := (slots + 10000) + 24 * 0) (by omega) (by omega) (or_sights (c0 := cells + 400) (s0 := slots + 10000) hc hlf hfr hlo (by omega) (by omega) (fun c2 H locs ls hm2 hM hS hl => ?_) (6 + 1) 0 c1 H locs ls (by omega) (by omega) hm1 hM hS hl)
  obtain ⟨dh, cu, nx, sz, hF, hA, hR, hS6⟩ := hm2
  -- two sums
  have hG : GI t (c2 0) := ⟨6, 3, 2, 5, t, dh, cu, Nat.le_refl _, hF⟩
  obtain ⟨sum, c3, kA, aA, rA⟩ := asks_any l hlf g (putC g (fun _ => none) x c2) x c2 ClsAt.put hG hA
  rw [putC_putC] at kA
  refine lv_aload_n hx hb dL_law_904 rfl (lv_at hl 0 rfl) ?_
  refine k_S1 hc [.ref x] cw_L_278 dL_law_905 kA hM hS hl.1 rfl rfl ⟨by omega, by omega⟩ ⟨by omega, by omega⟩ (Nat.le_of_ble_eq_true rfl) (fun H locs hM hS => ?_)
  refine lv_lstore_n (lv' := [(3, .long sum), (2, .ref x), (0, .ref (gSb g))]) hx hb dL_law_908 rfl hl (by decide) (by rfl) (fun ls hl => ?_)
  obtain ⟨V, c4, kB, aB, rB⟩ := asks_any l hlf g (putC g (fun _ => none) x c3) x c3 ClsAt.put (show GI t (c3 0) by rw [rA.1]; exact hG) rA.2.2
  rw [putC_putC] at kB
  obtain rfl : V = sum := aB.uniq (by rw [rA.1]; exact aA)
  refine lv_aload_n hx hb dL_law_909 rfl (lv_at hl 1 rfl) ?_
  refine k_S1 hc [.ref x] cw_L_278 dL_law_910 kB hM hS hl.1 rfl rfl ⟨by omega, by omega⟩ ⟨by omega, by omega⟩ (Nat.le_of_ble_eq_true rfl) (fun H locs hM hS => ?_)
  refine lv_lload_n hx hb dL_law_913 rfl (lv_at hl 0 rfl) ?_
  refine lv_lcmp hx hb dL_law_914 ?_
  rw [lc_eq]
  refine lv_if_ne (tgt := 925) hx hb dL_law_915 (by decide) (fun h => absurd rfl h) (fun _ => ?_)
  have r4 := rA.tr rB
  refine lv_aload_n hx hb dL_law_918 rfl (lv_at hl 1 rfl) ?_
  refine k_S1v hc [.ref x] cw_L_305 dL_law_919 (c_L_refused l hlf g (putC g (fun _ => none) x c4) x c4 (t := t) (dh := dh) (cu := cu) (nx := nx) (sz := sz) ClsAt.put (by rw [r4.1]; exact hF) r4.2.2 (hR.keep r4.2.1) (hS6.of (by rw [r4.1])) (by omega)) hM hS hl.1 rfl rfl ⟨by omega, by omega⟩ ⟨by omega, by omega⟩ (Nat.le_of_ble_eq_true rfl) (fun v9 M9 H locs hs hM hS => ?_)
  obtain ⟨rfl, c5, rfl, r5⟩ := hs
  rw [putC_putC] at hM
  refine lv_if_ne (tgt := 927) hx hb dL_law_922 (by decide) (fun _ => ?_) (fun h => absurd h (by decide))
  have r5 := r4.tr r5
  -- what is saved
  refine lv_aload_n hx hb dL_law_927 rfl (lv_at hl 1 rfl) ?_
  refine k_V1 hc [] cw_L_298 (ci := 7) rfl dL_law_928 (c_X5_save l hlf g (putC g (fun _ => none) x c5) x c5 ClsAt.put) (ClsAt.put (g := g) (M := fun _ => none) (x := x) (cs := c5)).o hM hS hl.1 rfl rfl ⟨by omega, by omega⟩ ⟨by omega, by omega⟩ (Nat.le_of_ble_eq_true rfl) (fun H locs hM hS => ?_)
  rw [putC_putC] at hM
  refine lv_istore (lv' := [(5, .int (c5 0 9 1)), (3, .long V), (2, .ref x), (0, .ref (gSb g))]) hx hb dL_law_931 hl (by decide) rfl (fun ls hl => ?_)
  have e0 : upS (upC c5 2 (c5 0)) 7 1 0 = c5 0 := by rw [upS_f (by omega), upC_ne (by omega)]
  have e2 : upS (upC c5 2 (c5 0)) 7 1 2 = c5 0 := by rw [upS_f (by omega), upC_at]
  have e7 : upS (upC c5 2 (c5 0)) 7 1 11 3 7 = 1 := by unfold upS; rw [upC_at, up2_at]
  have eA : Aux (upS (upC c5 2 (c5 0)) 7 1) := r5.2.2.st (by rw [upS_r (by omega), upC_ne (by omega)]) (by rw [upS_r (by omega), upC_ne (by omega)]) (by rw [upS_s (by omega), upC_ne (by omega)]) (by rw [upS_s (by omega), upC_ne (by omega)])
  have eR : Rg nx sz (upS (upC c5 2 (c5 0)) 7 1) := by
    have h := hR.keep r5.2.1
    exact ⟨h.1, h.2.1, by rw [upS_s (by omega), upC_ne (by omega)]; exact h.2.2.1, by rw [upS_s (by omega), upC_ne (by omega)]; exact h.2.2.2⟩
  generalize upS (upC c5 2 (c5 0)) 7 1 = c6 at *
  have eF : c5 0 = c2 0 := r5.1
  refine lv_iload hx hb dL_law_933 (lv_at hl 0 rfl) ?_
  refine lv_aload_n hx hb dL_law_935 rfl (lv_at hl 2 rfl) ?_
  refine lv_iconst (v := 0) hx hb dL_law_936 (by decide) ?_
  have k7 := h_account l hlf g (putC g (fun _ => none) x c6) x c6 0 ClsAt.put
  rw [ac_0, e0] at k7
  refine k_SX1 hc [.ref x, .int 0] cw_L_205 dL_law_937 k7 hM hS hl.1 rfl rfl ⟨by omega, by omega⟩ ⟨by omega, by omega⟩ (Nat.le_of_ble_eq_true rfl) (fun H locs hM hS => ?_)
  refine lv_icmp_ne (tgt := 952) hx hb dL_law_940 (by decide) (fun h => absurd rfl h) (fun _ => ?_)
  have hG6 : GI t (c6 0) := by rw [e0, eF]; exact hG
  obtain ⟨V2, c7, kC, aC, rC⟩ := asks_any l hlf g (putC g (fun _ => none) x c6) x c6 ClsAt.put hG6 eA
  rw [putC_putC] at kC
  obtain rfl : V2 = V := aC.uniq (by rw [e0, eF]; exact aA)
  refine lv_aload_n hx hb dL_law_943 rfl (lv_at hl 2 rfl) ?_
  refine k_S1 hc [.ref x] cw_L_278 dL_law_944 kC hM hS hl.1 rfl rfl ⟨by omega, by omega⟩ ⟨by omega, by omega⟩ (Nat.le_of_ble_eq_true rfl) (fun H locs hM hS => ?_)
  refine lv_lload_n hx hb dL_law_947 rfl (lv_at hl 1 rfl) ?_
  refine lv_lcmp hx hb dL_law_948 ?_
  rw [lc_eq]
  refine lv_if_eq (tgt := 954) hx hb dL_law_949 (by decide) (fun _ => ?_) (fun h => absurd rfl h)
  -- the changes
  refine lv_bipush (v := 13) hx hb dL_law_954 (by decide) ?_
  refine k_newJX hc (N' := 13) (by decide) (by decide) (by omega) dL_law_956 hM hS (by omega) (by omega) (fun w H hno hM hS => ?_)
  have hw : ¬ (x ≤ w ∧ w < x + 196) := fun q => by
    unfold putC at hno
    rw [if_pos q] at hno
    cases hno
  rw [putC_w hw] at hM
  refine lv_astore (lv' := [(6, .ref w), (5, .int (c5 0 9 1)), (3, .long V2), (2, .ref x), (0, .ref (gSb g))]) hx hb dL_law_958 hl (by decide) rfl (fun ls hl => ?_)
  refine lv_iconst (v := 0) hx hb dL_law_960 (by decide) ?_
  refine lv_istore (lv' := [(7, .int (nI 0)), (6, .ref w), (5, .int (c5 0 9 1)), (3, .long V2), (2, .ref x), (0, .ref (gSb g))]) hx hb dL_law_961 hl (by decide) rfl (fun ls hl => ?_)
  refine lv_iconst (v := 0) hx hb dL_law_963 (by decide) ?_
  refine lv_istore (lv' := [(8, .int (nI 0)), (7, .int (nI 0)), (6, .ref w), (5, .int (c5 0 9 1)), (3, .long V2), (2, .ref x), (0, .ref (gSb g))]) hx hb dL_law_964 hl (by decide) rfl (fun ls hl => ?_)
  have hRng : Rng (c5 0) (t + 0 * (48 * 61)) 0 (fun _ => 0) c7 := ⟨by rw [rC.1]; exact hG6.mono (by omega), rC.2.2, rC.2.1.1.trans e2, rC.2.1.2.2.2.2.trans e7, nx, sz, eR.keep rC.2.1, by omega, fun k k1 k2 => absurd k2 (by omega)⟩
  refine W.widen (k := (cells + 20000) + 4100 * 0) (n := (slots + 120000) + 24600 * 0) (by omega) (by omega) (or_changes (c0 := cells + 20000) (s0 := slots + 120000) hc hlf hfr hlo hw (by omega) (by omega) (by omega) (fun done f c8 H locs ls hd hRg hM hS hl => ?_) (12 + 1) 0 0 (fun _ => 0) c7 H locs ls (by omega) (by omega) (by omega) hRng hM hS hl)
  obtain ⟨g1, g2, g3, g4, nx8, sz8, gR, gs, gh⟩ := hRg
  refine lv_bipush (v := 8) hx hb dL_law_1033 (by decide) ?_
  refine lv_iload hx hb dL_law_1035 (lv_at hl 0 rfl) ?_
  refine k_min hc q_L_313 dL_law_1037 hl.1 ⟨by omega, by show 0 + 13 ≤ R.locals; omega, by omega, by omega⟩ ?_
  rw [min_8 done (by omega)]
  refine lv_istore (lv' := [(8, .int (nI (min 8 done))), (7, .int (nI done)), (6, .ref w), (5, .int (c5 0 9 1)), (3, .long V2), (2, .ref x), (0, .ref (gSb g))]) hx hb dL_law_1040 hl (by decide) rfl (fun ls hl => ?_)
  refine lv_iconst (v := 1) hx hb dL_law_1042 (by decide) ?_
  refine lv_istore (lv' := [(9, .int (nI (0 + 1))), (8, .int (nI (min 8 done))), (7, .int (nI done)), (6, .ref w), (5, .int (c5 0 9 1)), (3, .long V2), (2, .ref x), (0, .ref (gSb g))]) hx hb dL_law_1043 hl (by decide) rfl (fun ls hl => ?_)
  have hU : Und (c5 0) done f nx8 sz8 0 c8 := ⟨⟨_, g1⟩, g2, g3, g4, by rw [show bck nx8 0 = nx8 by have := gR.1; unfold bck; omega]; exact gR, fun k k1 k2 => gh k (by omega) k2⟩
  refine W.widen (k := (cells + 69300) + 2003 * 0) (n := (slots + 415500) + 12018 * 0) (by omega) (by omega) (or_undos (c0 := cells + 69300) (s0 := slots + 415500) hc hlf hfr hlo hw (upM_at) hd gR.1 gR.2.1 gs (by omega) (by omega) (fun c10 H locs ls hU hM hS hl => ?_) (min 8 done + 1) 0 c8 H locs ls (by omega) (by omega) hU hM hS (lv_sub hl [0, 1, 2, 3, 4, 5, 6] rfl))
  obtain ⟨-, q2, q3, q4, q5, -⟩ := hU
  exact or_end hc hlf hfr hlo (F0f := c5 0) (by rw [eF]; exact aA) ⟨⟨t, by rw [eF]; exact hG⟩, q2, q3, q4, q5.ok⟩ (by omega) (by omega) hM hS hl (fun H locs ls hS => W.widen (by omega) (by omega) (kk H locs ls hS))
end OR2
