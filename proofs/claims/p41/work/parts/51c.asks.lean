/-! THE WALK OF asks -/
theorem as5_at {k n : Nat} {q : Int64 × CS} {u : CS} (en : v_line q.2 (nI k) = nI n) (hn : n ≤ 79) (eu : s_line q.2 (nI k) = u) : as5 k q = (itr (as5c u) (31 * q.1 + (v_wrongBy q.2 (nI k)).toInt64) n, u) := by
  unfold as5
  rw [eu, en, nI_clamp (by omega)]
section AS
variable {p : Program} {l : Launch} {e : Env} {R : Room} {s : State} {m : MethodId} {args : Array Value} {below : List Frame} {meth : Method} {c : Code} {Q : State → Prop}
variable {g : GC} {M : HM} {x : Nat} {cs : CS} {ns np nh nc t dh cu : Nat}
set_option maxHeartbeats 4000000 in
set_option maxRecDepth 100000 in
theorem as_23 (hc : Cx g p l s m args meth c cL_asks 6 RL) (hlf : l.stackTraces = false) (hW : ClsAt g M x cs) (hF : FI ns np nh nc t dh cu (cs 0)) (hfr : 14 ≤ R.frames) (hlo : 900 ≤ R.locals) {c0 s0 : Nat} (hce : (c0 + 45) ≤ R.cells) (hsl : (s0 + 270) ≤ R.slots) {A : Int64}
    (kk : ∀ (H : Heap) (locs : List Loc) (ls : Array Slot), hR g M H → va_S (gA g) s.heap H locs → lv_has ls 6 [(1, .long (itr (as1 cs) A 15)), (0, .ref x)] → W p l e R s m args below meth c H locs (c0 + 45) (s0 + 270) Q (F0 m 48 ls [])) :
    ∀ (D k : Nat) (H : Heap) (locs : List Loc) (ls : Array Slot), 15 - k < D → k ≤ 15 → hR g M H → va_S (gA g) s.heap H locs → lv_has ls 6 [(3, .int (nI k)), (1, .long (itr (as1 cs) A k)), (0, .ref x)] → W p l e R s m args below meth c H locs (c0 + 3 * k) (s0 + 18 * k) Q (F0 m 23 ls []) := by
  have hx := hc.1
  have hb := hc.2.1
  have b1 := hF.1.1
  have b2 := hF.1.2.1
  have b3 := hF.1.2.2.1
  have b4 := hF.1.2.2.2.1
  intro D
  induction D with
  | zero => intro k H locs ls hD; exact absurd hD (Nat.not_lt_zero _)
  | succ D ih =>
    intro k H locs ls hD hk hM hS hl
    refine lv_iload_n hx hb dL_asks_23 rfl (lv_at hl 0 rfl) ?_
    refine lv_bipush (v := 15) hx hb dL_asks_24 (by decide) ?_
    refine lv_icmp_ge (tgt := 48) hx hb dL_asks_26 (by decide) (fun c_t => ?_) (fun c_t => ?_)
    · have hk9 : 15 ≤ k := (nI_leI (a := 15) (b := k) (by omega) (by omega)).mp c_t
      obtain rfl : k = 15 := by omega
      exact kk H locs ls hM hS (lv_sub hl [1, 2] rfl)
    have hk9 : k < 15 := by
      rcases Nat.lt_or_ge k 15 with q | q
      · exact q
      · exact absurd (nI_le (a := 15) q (by omega)) c_t
    refine lv_ldc2 (v := 31) hx hb hc.2.2.2.1 (hc.2.2.2.2.1 _ qk_L_185) dL_asks_29 ?_
    refine lv_lload_n hx hb dL_asks_32 rfl (lv_at hl 1 rfl) ?_
    refine lv_lmul hx hb dL_asks_33 ?_
    refine lv_aload_n hx hb dL_asks_34 rfl (lv_at hl 2 rfl) ?_
    refine lv_iload_n hx hb dL_asks_35 rfl (lv_at hl 0 rfl) ?_
    refine k_SX1 hc [.ref x, .int (nI k)] cw_L_205 dL_asks_36 (h_account l hlf g M x cs (nI k) hW) hM hS hl.1 rfl rfl ⟨by omega, by omega⟩ ⟨by omega, by omega⟩ (Nat.le_of_ble_eq_true rfl) (fun H locs hM hS => ?_)
    refine lv_i2l hx hb dL_asks_39 rfl ?_
    refine lv_ladd hx hb dL_asks_40 ?_
    refine lv_lstore_n (lv' := [(1, .long ((31 * (itr (as1 cs) A k)) + (v_account cs (nI k)).toInt64)), (3, .int (nI k)), (0, .ref x)]) hx hb dL_asks_41 rfl hl (by decide) (by rfl) (fun ls hl => ?_)
    refine lv_iinc (v := (nI (k + 1))) (lv' := [(3, .int (nI (k + 1))), (1, .long ((31 * (itr (as1 cs) A k)) + (v_account cs (nI k)).toInt64)), (0, .ref x)]) hx hb dL_asks_42 hl (k := 1) rfl (k_inc1 _) (by decide) rfl (fun ls hl => ?_)
    refine lv_goto (tgt := 23) hx hb dL_asks_45 (by decide) ?_
    refine W.widen (k := c0 + 3 * (k + 1)) (n := s0 + 18 * (k + 1)) (by omega) (by omega) (ih (k + 1) H locs ls (by omega) (by omega) hM hS (lv_sub hl [0, 1, 2] rfl))
set_option maxHeartbeats 4000000 in
set_option maxRecDepth 100000 in
theorem as_86 (hc : Cx g p l s m args meth c cL_asks 6 RL) (hlf : l.stackTraces = false) (hW : ClsAt g M x cs) (hF : FI ns np nh nc t dh cu (cs 0)) (hfr : 14 ≤ R.frames) (hlo : 900 ≤ R.locals) {i : Nat} (hi : i < ns) {c0 s0 : Nat} (hce : (c0 + 6 * nh + 3) ≤ R.cells) (hsl : (s0 + 36 * nh + 18) ≤ R.slots) {A : Int64}
    (kk : ∀ (H : Heap) (locs : List Loc) (ls : Array Slot), hR g M H → va_S (gA g) s.heap H locs → lv_has ls 6 [(1, .long (itr (as2h cs i) A nh)), (3, .int (nI i)), (0, .ref x)] → W p l e R s m args below meth c H locs (c0 + 6 * nh + 3) (s0 + 36 * nh + 18) Q (F0 m 118 ls [])) :
    ∀ (D k : Nat) (H : Heap) (locs : List Loc) (ls : Array Slot), nh - k < D → k ≤ nh → hR g M H → va_S (gA g) s.heap H locs → lv_has ls 6 [(4, .int (nI k)), (1, .long (itr (as2h cs i) A k)), (3, .int (nI i)), (0, .ref x)] → W p l e R s m args below meth c H locs (c0 + 6 * k) (s0 + 36 * k) Q (F0 m 86 ls []) := by
  have hx := hc.1
  have hb := hc.2.1
  have b1 := hF.1.1
  have b2 := hF.1.2.1
  have b3 := hF.1.2.2.1
  have b4 := hF.1.2.2.2.1
  intro D
  induction D with
  | zero => intro k H locs ls hD; exact absurd hD (Nat.not_lt_zero _)
  | succ D ih =>
    intro k H locs ls hD hk hM hS hl
    refine lv_iload hx hb dL_asks_86 (lv_at hl 0 rfl) ?_
    refine lv_aload_n hx hb dL_asks_88 rfl (lv_at hl 3 rfl) ?_
    refine lv_bipush (v := 6) hx hb dL_asks_89 (by decide) ?_
    have k1 := h_account l hlf g M x cs 6 hW
    rw [show v_account cs 6 = (nI nh) from ac_6 hF] at k1
    refine k_SX1 hc [.ref x, .int 6] cw_L_205 dL_asks_91 k1 hM hS hl.1 rfl rfl ⟨by omega, by omega⟩ ⟨by omega, by omega⟩ (Nat.le_of_ble_eq_true rfl) (fun H locs hM hS => ?_)
    refine lv_icmp_ge (tgt := 118) hx hb dL_asks_94 (by decide) (fun c_t => ?_) (fun c_t => ?_)
    · have hk9 : nh ≤ k := (nI_leI (a := nh) (b := k) (by omega) (by omega)).mp c_t
      obtain rfl : k = nh := by omega
      exact kk H locs ls hM hS (lv_sub hl [1, 2, 3] rfl)
    have hk9 : k < nh := by
      rcases Nat.lt_or_ge k nh with q | q
      · exact q
      · exact absurd (nI_le (a := nh) q (by omega)) c_t
    refine lv_ldc2 (v := 31) hx hb hc.2.2.2.1 (hc.2.2.2.2.1 _ qk_L_185) dL_asks_97 ?_
    refine lv_lload_n hx hb dL_asks_100 rfl (lv_at hl 1 rfl) ?_
    refine lv_lmul hx hb dL_asks_101 ?_
    refine lv_aload_n hx hb dL_asks_102 rfl (lv_at hl 3 rfl) ?_
    refine lv_iload_n hx hb dL_asks_103 rfl (lv_at hl 2 rfl) ?_
    refine lv_iload hx hb dL_asks_104 (lv_at hl 0 rfl) ?_
    refine k_SX1 hc [.ref x, .int (nI i), .int (nI k)] cw_L_211 dL_asks_106 (h_drawnAt l hlf g M x cs (nI i) (nI k) hW) hM hS hl.1 rfl rfl ⟨by omega, by omega⟩ ⟨by omega, by omega⟩ (Nat.le_of_ble_eq_true rfl) (fun H locs hM hS => ?_)
    refine lv_i2l hx hb dL_asks_109 rfl ?_
    refine lv_ladd hx hb dL_asks_110 ?_
    refine lv_lstore_n (lv' := [(1, .long ((31 * (itr (as2h cs i) A k)) + (v_drawnAt cs (nI i) (nI k)).toInt64)), (4, .int (nI k)), (3, .int (nI i)), (0, .ref x)]) hx hb dL_asks_111 rfl hl (by decide) (by rfl) (fun ls hl => ?_)
    refine lv_iinc (v := (nI (k + 1))) (lv' := [(4, .int (nI (k + 1))), (1, .long ((31 * (itr (as2h cs i) A k)) + (v_drawnAt cs (nI i) (nI k)).toInt64)), (3, .int (nI i)), (0, .ref x)]) hx hb dL_asks_112 hl (k := 1) rfl (k_inc1 _) (by decide) rfl (fun ls hl => ?_)
    refine lv_goto (tgt := 86) hx hb dL_asks_115 (by decide) ?_
    refine W.widen (k := c0 + 6 * (k + 1)) (n := s0 + 36 * (k + 1)) (by omega) (by omega) (ih (k + 1) H locs ls (by omega) (by omega) hM hS (lv_sub hl [0, 1, 2, 3] rfl))
set_option maxHeartbeats 4000000 in
set_option maxRecDepth 100000 in
theorem as_121 (hc : Cx g p l s m args meth c cL_asks 6 RL) (hlf : l.stackTraces = false) (hW : ClsAt g M x cs) (hF : FI ns np nh nc t dh cu (cs 0)) (hfr : 14 ≤ R.frames) (hlo : 900 ≤ R.locals) {i : Nat} (hi : i < ns) {c0 s0 : Nat} (hce : (c0 + 15 * np + 3) ≤ R.cells) (hsl : (s0 + 90 * np + 18) ≤ R.slots) {A : Int64}
    (kk : ∀ (H : Heap) (locs : List Loc) (ls : Array Slot), hR g M H → va_S (gA g) s.heap H locs → lv_has ls 6 [(1, .long (itr (as2p cs i) A np)), (3, .int (nI i)), (0, .ref x)] → W p l e R s m args below meth c H locs (c0 + 15 * np + 3) (s0 + 90 * np + 18) Q (F0 m 191 ls [])) :
    ∀ (D k : Nat) (H : Heap) (locs : List Loc) (ls : Array Slot), np - k < D → k ≤ np → hR g M H → va_S (gA g) s.heap H locs → lv_has ls 6 [(4, .int (nI k)), (1, .long (itr (as2p cs i) A k)), (3, .int (nI i)), (0, .ref x)] → W p l e R s m args below meth c H locs (c0 + 15 * k) (s0 + 90 * k) Q (F0 m 121 ls []) := by
  have hx := hc.1
  have hb := hc.2.1
  have b1 := hF.1.1
  have b2 := hF.1.2.1
  have b3 := hF.1.2.2.1
  have b4 := hF.1.2.2.2.1
  intro D
  induction D with
  | zero => intro k H locs ls hD; exact absurd hD (Nat.not_lt_zero _)
  | succ D ih =>
    intro k H locs ls hD hk hM hS hl
    refine lv_iload hx hb dL_asks_121 (lv_at hl 0 rfl) ?_
    refine lv_aload_n hx hb dL_asks_123 rfl (lv_at hl 3 rfl) ?_
    refine lv_iconst (v := 5) hx hb dL_asks_124 (by decide) ?_
    have k1 := h_account l hlf g M x cs 5 hW
    rw [show v_account cs 5 = (nI np) from ac_5 hF] at k1
    refine k_SX1 hc [.ref x, .int 5] cw_L_205 dL_asks_125 k1 hM hS hl.1 rfl rfl ⟨by omega, by omega⟩ ⟨by omega, by omega⟩ (Nat.le_of_ble_eq_true rfl) (fun H locs hM hS => ?_)
    refine lv_icmp_ge (tgt := 191) hx hb dL_asks_128 (by decide) (fun c_t => ?_) (fun c_t => ?_)
    · have hk9 : np ≤ k := (nI_leI (a := np) (b := k) (by omega) (by omega)).mp c_t
      obtain rfl : k = np := by omega
      exact kk H locs ls hM hS (lv_sub hl [1, 2, 3] rfl)
    have hk9 : k < np := by
      rcases Nat.lt_or_ge k np with q | q
      · exact q
      · exact absurd (nI_le (a := np) q (by omega)) c_t
    refine lv_ldc2 (v := 31) hx hb hc.2.2.2.1 (hc.2.2.2.2.1 _ qk_L_185) dL_asks_131 ?_
    refine lv_ldc2 (v := 31) hx hb hc.2.2.2.1 (hc.2.2.2.2.1 _ qk_L_185) dL_asks_134 ?_
    refine lv_ldc2 (v := 31) hx hb hc.2.2.2.1 (hc.2.2.2.2.1 _ qk_L_185) dL_asks_137 ?_
    refine lv_ldc2 (v := 31) hx hb hc.2.2.2.1 (hc.2.2.2.2.1 _ qk_L_185) dL_asks_140 ?_
    refine lv_lload_n hx hb dL_asks_143 rfl (lv_at hl 1 rfl) ?_
    refine lv_lmul hx hb dL_asks_144 ?_
    refine lv_aload_n hx hb dL_asks_145 rfl (lv_at hl 3 rfl) ?_
    refine lv_iload_n hx hb dL_asks_146 rfl (lv_at hl 2 rfl) ?_
    refine lv_iload hx hb dL_asks_147 (lv_at hl 0 rfl) ?_
    refine k_SX1 hc [.ref x, .int (nI i), .int (nI k)] cw_L_213 dL_asks_149 (h_seems l hlf g M x cs (nI i) (nI k) hW) hM hS hl.1 rfl rfl ⟨by omega, by omega⟩ ⟨by omega, by omega⟩ (Nat.le_of_ble_eq_true rfl) (fun H locs hM hS => ?_)
    refine lv_i2l hx hb dL_asks_152 rfl ?_
    refine lv_ladd hx hb dL_asks_153 ?_
    refine lv_lmul hx hb dL_asks_154 ?_
    refine lv_aload_n hx hb dL_asks_155 rfl (lv_at hl 3 rfl) ?_
    refine lv_iload_n hx hb dL_asks_156 rfl (lv_at hl 2 rfl) ?_
    refine lv_iload hx hb dL_asks_157 (lv_at hl 0 rfl) ?_
    refine k_SX1 hc [.ref x, .int (nI i), .int (nI k)] cw_L_215 dL_asks_159 (h_seemsAgain l hlf g M x cs (nI i) (nI k) hW) hM hS hl.1 rfl rfl ⟨by omega, by omega⟩ ⟨by omega, by omega⟩ (Nat.le_of_ble_eq_true rfl) (fun H locs hM hS => ?_)
    refine lv_i2l hx hb dL_asks_162 rfl ?_
    refine lv_ladd hx hb dL_asks_163 ?_
    refine lv_lmul hx hb dL_asks_164 ?_
    refine lv_aload_n hx hb dL_asks_165 rfl (lv_at hl 3 rfl) ?_
    refine lv_iload_n hx hb dL_asks_166 rfl (lv_at hl 2 rfl) ?_
    refine lv_iload hx hb dL_asks_167 (lv_at hl 0 rfl) ?_
    refine k_SX1 hc [.ref x, .int (nI i), .int (nI k)] cw_L_217 dL_asks_169 (h_shimmers l hlf g M x cs (nI i) (nI k) hW) hM hS hl.1 rfl rfl ⟨by omega, by omega⟩ ⟨by omega, by omega⟩ (Nat.le_of_ble_eq_true rfl) (fun H locs hM hS => ?_)
    refine lv_i2l hx hb dL_asks_172 rfl ?_
    refine lv_ladd hx hb dL_asks_173 ?_
    refine lv_lmul hx hb dL_asks_174 ?_
    refine lv_aload_n hx hb dL_asks_175 rfl (lv_at hl 3 rfl) ?_
    refine lv_iload_n hx hb dL_asks_176 rfl (lv_at hl 2 rfl) ?_
    refine lv_iload hx hb dL_asks_177 (lv_at hl 0 rfl) ?_
    refine k_SX1 hc [.ref x, .int (nI i), .int (nI k)] cw_L_219 dL_asks_179 (h_clearIn l hlf g M x cs (nI i) (nI k) hW) hM hS hl.1 rfl rfl ⟨by omega, by omega⟩ ⟨by omega, by omega⟩ (Nat.le_of_ble_eq_true rfl) (fun H locs hM hS => ?_)
    refine lv_i2l hx hb dL_asks_182 rfl ?_
    refine lv_ladd hx hb dL_asks_183 ?_
    refine lv_lstore_n (lv' := [(1, .long ((31 * ((31 * ((31 * ((31 * (itr (as2p cs i) A k)) + (v_seems cs (nI i) (nI k)).toInt64)) + (v_seemsAgain cs (nI i) (nI k)).toInt64)) + (v_shimmers cs (nI i) (nI k)).toInt64)) + (v_clearIn cs (nI i) (nI k)).toInt64)), (4, .int (nI k)), (3, .int (nI i)), (0, .ref x)]) hx hb dL_asks_184 rfl hl (by decide) (by rfl) (fun ls hl => ?_)
    refine lv_iinc (v := (nI (k + 1))) (lv' := [(4, .int (nI (k + 1))), (1, .long ((31 * ((31 * ((31 * ((31 * (itr (as2p cs i) A k)) + (v_seems cs (nI i) (nI k)).toInt64)) + (v_seemsAgain cs (nI i) (nI k)).toInt64)) + (v_shimmers cs (nI i) (nI k)).toInt64)) + (v_clearIn cs (nI i) (nI k)).toInt64)), (3, .int (nI i)), (0, .ref x)]) hx hb dL_asks_185 hl (k := 1) rfl (k_inc1 _) (by decide) rfl (fun ls hl => ?_)
    refine lv_goto (tgt := 121) hx hb dL_asks_188 (by decide) ?_
    refine W.widen (k := c0 + 15 * (k + 1)) (n := s0 + 90 * (k + 1)) (by omega) (by omega) (ih (k + 1) H locs ls (by omega) (by omega) hM hS (lv_sub hl [0, 1, 2, 3] rfl))
set_option maxHeartbeats 4000000 in
set_option maxRecDepth 100000 in
theorem as_50 (hc : Cx g p l s m args meth c cL_asks 6 RL) (hlf : l.stackTraces = false) (hW : ClsAt g M x cs) (hF : FI ns np nh nc t dh cu (cs 0)) (hfr : 14 ≤ R.frames) (hlo : 900 ≤ R.locals) {c0 s0 : Nat} (hce : (c0 + 93 * ns + 3) ≤ R.cells) (hsl : (s0 + 558 * ns + 18) ≤ R.slots) {A : Int64}
    (kk : ∀ (H : Heap) (locs : List Loc) (ls : Array Slot), hR g M H → va_S (gA g) s.heap H locs → lv_has ls 6 [(1, .long (itr (as2 cs np nh) A ns)), (0, .ref x)] → W p l e R s m args below meth c H locs (c0 + 93 * ns + 3) (s0 + 558 * ns + 18) Q (F0 m 197 ls [])) :
    ∀ (D k : Nat) (H : Heap) (locs : List Loc) (ls : Array Slot), ns - k < D → k ≤ ns → hR g M H → va_S (gA g) s.heap H locs → lv_has ls 6 [(3, .int (nI k)), (1, .long (itr (as2 cs np nh) A k)), (0, .ref x)] → W p l e R s m args below meth c H locs (c0 + 93 * k) (s0 + 558 * k) Q (F0 m 50 ls []) := by
  have hx := hc.1
  have hb := hc.2.1
  have b1 := hF.1.1
  have b2 := hF.1.2.1
  have b3 := hF.1.2.2.1
  have b4 := hF.1.2.2.2.1
  intro D
  induction D with
  | zero => intro k H locs ls hD; exact absurd hD (Nat.not_lt_zero _)
  | succ D ih =>
    intro k H locs ls hD hk hM hS hl
    refine lv_iload_n hx hb dL_asks_50 rfl (lv_at hl 0 rfl) ?_
    refine lv_aload_n hx hb dL_asks_51 rfl (lv_at hl 2 rfl) ?_
    refine lv_iconst (v := 4) hx hb dL_asks_52 (by decide) ?_
    have k1 := h_account l hlf g M x cs 4 hW
    rw [show v_account cs 4 = (nI ns) from ac_4 hF] at k1
    refine k_SX1 hc [.ref x, .int 4] cw_L_205 dL_asks_53 k1 hM hS hl.1 rfl rfl ⟨by omega, by omega⟩ ⟨by omega, by omega⟩ (Nat.le_of_ble_eq_true rfl) (fun H locs hM hS => ?_)
    refine lv_icmp_ge (tgt := 197) hx hb dL_asks_56 (by decide) (fun c_t => ?_) (fun c_t => ?_)
    · have hk9 : ns ≤ k := (nI_leI (a := ns) (b := k) (by omega) (by omega)).mp c_t
      obtain rfl : k = ns := by omega
      exact kk H locs ls hM hS (lv_sub hl [1, 2] rfl)
    have hk9 : k < ns := by
      rcases Nat.lt_or_ge k ns with q | q
      · exact q
      · exact absurd (nI_le (a := ns) q (by omega)) c_t
    refine lv_ldc2 (v := 31) hx hb hc.2.2.2.1 (hc.2.2.2.2.1 _ qk_L_185) dL_asks_59 ?_
    refine lv_ldc2 (v := 31) hx hb hc.2.2.2.1 (hc.2.2.2.2.1 _ qk_L_185) dL_asks_62 ?_
    refine lv_lload_n hx hb dL_asks_65 rfl (lv_at hl 1 rfl) ?_
    refine lv_lmul hx hb dL_asks_66 ?_
    refine lv_aload_n hx hb dL_asks_67 rfl (lv_at hl 2 rfl) ?_
    refine lv_iload_n hx hb dL_asks_68 rfl (lv_at hl 0 rfl) ?_
    refine k_SX1 hc [.ref x, .int (nI k)] cw_L_207 dL_asks_69 (h_stakeAt l hlf g M x cs (nI k) hW) hM hS hl.1 rfl rfl ⟨by omega, by omega⟩ ⟨by omega, by omega⟩ (Nat.le_of_ble_eq_true rfl) (fun H locs hM hS => ?_)
    refine lv_i2l hx hb dL_asks_72 rfl ?_
    refine lv_ladd hx hb dL_asks_73 ?_
    refine lv_lmul hx hb dL_asks_74 ?_
    refine lv_aload_n hx hb dL_asks_75 rfl (lv_at hl 2 rfl) ?_
    refine lv_iload_n hx hb dL_asks_76 rfl (lv_at hl 0 rfl) ?_
    refine k_SX1 hc [.ref x, .int (nI k)] cw_L_209 dL_asks_77 (h_bestPost l hlf g M x cs (nI k) hW) hM hS hl.1 rfl rfl ⟨by omega, by omega⟩ ⟨by omega, by omega⟩ (Nat.le_of_ble_eq_true rfl) (fun H locs hM hS => ?_)
    refine lv_i2l hx hb dL_asks_80 rfl ?_
    refine lv_ladd hx hb dL_asks_81 ?_
    refine lv_lstore_n (lv' := [(1, .long ((31 * ((31 * (itr (as2 cs np nh) A k)) + (v_stakeAt cs (nI k)).toInt64)) + (v_bestPost cs (nI k)).toInt64)), (3, .int (nI k)), (0, .ref x)]) hx hb dL_asks_82 rfl hl (by decide) (by rfl) (fun ls hl => ?_)
    refine lv_iconst (v := 0) hx hb dL_asks_83 (by decide) ?_
    refine lv_istore (lv' := [(4, .int 0), (1, .long ((31 * ((31 * (itr (as2 cs np nh) A k)) + (v_stakeAt cs (nI k)).toInt64)) + (v_bestPost cs (nI k)).toInt64)), (3, .int (nI k)), (0, .ref x)]) hx hb dL_asks_84 hl (by decide) rfl (fun ls hl => ?_)
    refine W.widen (k := ((c0 + 93 * k) + 9) + 6 * 0) (n := ((s0 + 558 * k) + 54) + 36 * 0) (by omega) (by omega) (as_86 (c0 := ((c0 + 93 * k) + 9)) (s0 := ((s0 + 558 * k) + 54)) (A := ((31 * ((31 * (itr (as2 cs np nh) A k)) + (v_stakeAt cs (nI k)).toInt64)) + (v_bestPost cs (nI k)).toInt64)) hc hlf hW hF hfr hlo hk9 (by omega) (by omega) (fun H locs ls hM hS hl => ?_) (nh + 1) 0 H locs ls (by omega) (by omega) hM hS (lv_sub hl [0, 1, 2, 3] rfl))
    refine lv_iconst (v := 0) hx hb dL_asks_118 (by decide) ?_
    refine lv_istore (lv' := [(4, .int 0), (1, .long (itr (as2h cs k) ((31 * ((31 * (itr (as2 cs np nh) A k)) + (v_stakeAt cs (nI k)).toInt64)) + (v_bestPost cs (nI k)).toInt64) nh)), (3, .int (nI k)), (0, .ref x)]) hx hb dL_asks_119 hl (by decide) rfl (fun ls hl => ?_)
    refine W.widen (k := (((c0 + 93 * k) + 9) + 6 * nh + 3) + 15 * 0) (n := (((s0 + 558 * k) + 54) + 36 * nh + 18) + 90 * 0) (by omega) (by omega) (as_121 (c0 := (((c0 + 93 * k) + 9) + 6 * nh + 3)) (s0 := (((s0 + 558 * k) + 54) + 36 * nh + 18)) (A := (itr (as2h cs k) ((31 * ((31 * (itr (as2 cs np nh) A k)) + (v_stakeAt cs (nI k)).toInt64)) + (v_bestPost cs (nI k)).toInt64) nh)) hc hlf hW hF hfr hlo hk9 (by omega) (by omega) (fun H locs ls hM hS hl => ?_) (np + 1) 0 H locs ls (by omega) (by omega) hM hS (lv_sub hl [0, 1, 2, 3] rfl))
    refine lv_iinc (v := (nI (k + 1))) (lv' := [(3, .int (nI (k + 1))), (1, .long (itr (as2p cs k) (itr (as2h cs k) ((31 * ((31 * (itr (as2 cs np nh) A k)) + (v_stakeAt cs (nI k)).toInt64)) + (v_bestPost cs (nI k)).toInt64) nh) np)), (0, .ref x)]) hx hb dL_asks_191 hl (k := 1) rfl (k_inc1 _) (by decide) rfl (fun ls hl => ?_)
    refine lv_goto (tgt := 50) hx hb dL_asks_194 (by decide) ?_
    refine W.widen (k := c0 + 93 * (k + 1)) (n := s0 + 558 * (k + 1)) (by omega) (by omega) (ih (k + 1) H locs ls (by omega) (by omega) hM hS (lv_sub hl [0, 1, 2] rfl))
set_option maxHeartbeats 4000000 in
set_option maxRecDepth 100000 in
theorem as_199 (hc : Cx g p l s m args meth c cL_asks 6 RL) (hlf : l.stackTraces = false) (hW : ClsAt g M x cs) (hF : FI ns np nh nc t dh cu (cs 0)) (hfr : 14 ≤ R.frames) (hlo : 900 ≤ R.locals) {c0 s0 : Nat} (hce : (c0 + 9 * np + 3) ≤ R.cells) (hsl : (s0 + 54 * np + 18) ≤ R.slots) {A : Int64}
    (kk : ∀ (H : Heap) (locs : List Loc) (ls : Array Slot), hR g M H → va_S (gA g) s.heap H locs → lv_has ls 6 [(1, .long (itr (as3 cs) A np)), (0, .ref x)] → W p l e R s m args below meth c H locs (c0 + 9 * np + 3) (s0 + 54 * np + 18) Q (F0 m 240 ls [])) :
    ∀ (D k : Nat) (H : Heap) (locs : List Loc) (ls : Array Slot), np - k < D → k ≤ np → hR g M H → va_S (gA g) s.heap H locs → lv_has ls 6 [(3, .int (nI k)), (1, .long (itr (as3 cs) A k)), (0, .ref x)] → W p l e R s m args below meth c H locs (c0 + 9 * k) (s0 + 54 * k) Q (F0 m 199 ls []) := by
  have hx := hc.1
  have hb := hc.2.1
  have b1 := hF.1.1
  have b2 := hF.1.2.1
  have b3 := hF.1.2.2.1
  have b4 := hF.1.2.2.2.1
  intro D
  induction D with
  | zero => intro k H locs ls hD; exact absurd hD (Nat.not_lt_zero _)
  | succ D ih =>
    intro k H locs ls hD hk hM hS hl
    refine lv_iload_n hx hb dL_asks_199 rfl (lv_at hl 0 rfl) ?_
    refine lv_aload_n hx hb dL_asks_200 rfl (lv_at hl 2 rfl) ?_
    refine lv_iconst (v := 5) hx hb dL_asks_201 (by decide) ?_
    have k1 := h_account l hlf g M x cs 5 hW
    rw [show v_account cs 5 = (nI np) from ac_5 hF] at k1
    refine k_SX1 hc [.ref x, .int 5] cw_L_205 dL_asks_202 k1 hM hS hl.1 rfl rfl ⟨by omega, by omega⟩ ⟨by omega, by omega⟩ (Nat.le_of_ble_eq_true rfl) (fun H locs hM hS => ?_)
    refine lv_icmp_ge (tgt := 240) hx hb dL_asks_205 (by decide) (fun c_t => ?_) (fun c_t => ?_)
    · have hk9 : np ≤ k := (nI_leI (a := np) (b := k) (by omega) (by omega)).mp c_t
      obtain rfl : k = np := by omega
      exact kk H locs ls hM hS (lv_sub hl [1, 2] rfl)
    have hk9 : k < np := by
      rcases Nat.lt_or_ge k np with q | q
      · exact q
      · exact absurd (nI_le (a := np) q (by omega)) c_t
    refine lv_ldc2 (v := 31) hx hb hc.2.2.2.1 (hc.2.2.2.2.1 _ qk_L_185) dL_asks_208 ?_
    refine lv_ldc2 (v := 31) hx hb hc.2.2.2.1 (hc.2.2.2.2.1 _ qk_L_185) dL_asks_211 ?_
    refine lv_lload_n hx hb dL_asks_214 rfl (lv_at hl 1 rfl) ?_
    refine lv_lmul hx hb dL_asks_215 ?_
    refine lv_aload_n hx hb dL_asks_216 rfl (lv_at hl 2 rfl) ?_
    refine lv_iload_n hx hb dL_asks_217 rfl (lv_at hl 0 rfl) ?_
    refine lv_iconst (v := 1) hx hb dL_asks_218 (by decide) ?_
    refine k_SX1 hc [.ref x, .int (nI k), .int 1] cw_L_221 dL_asks_219 (h_postOf l hlf g M x cs (nI k) 1 hW) hM hS hl.1 rfl rfl ⟨by omega, by omega⟩ ⟨by omega, by omega⟩ (Nat.le_of_ble_eq_true rfl) (fun H locs hM hS => ?_)
    refine lv_i2l hx hb dL_asks_222 rfl ?_
    refine lv_ladd hx hb dL_asks_223 ?_
    refine lv_lmul hx hb dL_asks_224 ?_
    refine lv_aload_n hx hb dL_asks_225 rfl (lv_at hl 2 rfl) ?_
    refine lv_iload_n hx hb dL_asks_226 rfl (lv_at hl 0 rfl) ?_
    refine lv_iconst (v := 0) hx hb dL_asks_227 (by decide) ?_
    refine k_SX1 hc [.ref x, .int (nI k), .int 0] cw_L_221 dL_asks_228 (h_postOf l hlf g M x cs (nI k) 0 hW) hM hS hl.1 rfl rfl ⟨by omega, by omega⟩ ⟨by omega, by omega⟩ (Nat.le_of_ble_eq_true rfl) (fun H locs hM hS => ?_)
    refine lv_i2l hx hb dL_asks_231 rfl ?_
    refine lv_ladd hx hb dL_asks_232 ?_
    refine lv_lstore_n (lv' := [(1, .long ((31 * ((31 * (itr (as3 cs) A k)) + (v_postOf cs (nI k) 1).toInt64)) + (v_postOf cs (nI k) 0).toInt64)), (3, .int (nI k)), (0, .ref x)]) hx hb dL_asks_233 rfl hl (by decide) (by rfl) (fun ls hl => ?_)
    refine lv_iinc (v := (nI (k + 1))) (lv' := [(3, .int (nI (k + 1))), (1, .long ((31 * ((31 * (itr (as3 cs) A k)) + (v_postOf cs (nI k) 1).toInt64)) + (v_postOf cs (nI k) 0).toInt64)), (0, .ref x)]) hx hb dL_asks_234 hl (k := 1) rfl (k_inc1 _) (by decide) rfl (fun ls hl => ?_)
    refine lv_goto (tgt := 199) hx hb dL_asks_237 (by decide) ?_
    refine W.widen (k := c0 + 9 * (k + 1)) (n := s0 + 54 * (k + 1)) (by omega) (by omega) (ih (k + 1) H locs ls (by omega) (by omega) hM hS (lv_sub hl [0, 1, 2] rfl))
set_option maxHeartbeats 4000000 in
set_option maxRecDepth 100000 in
theorem as_255 (hc : Cx g p l s m args meth c cL_asks 6 RL) (hlf : l.stackTraces = false) (hW : ClsAt g M x cs) (hF : FI ns np nh nc t dh cu (cs 0)) (hfr : 14 ≤ R.frames) (hlo : 900 ≤ R.locals) {i : Nat} (hi : i < nc) {c0 s0 : Nat} (hce : (c0 + 15) ≤ R.cells) (hsl : (s0 + 90) ≤ R.slots) {A : Int64}
    (kk : ∀ (H : Heap) (locs : List Loc) (ls : Array Slot), hR g M H → va_S (gA g) s.heap H locs → lv_has ls 6 [(1, .long (itr (as4w cs i) A 5)), (3, .int (nI i)), (0, .ref x)] → W p l e R s m args below meth c H locs (c0 + 15) (s0 + 90) Q (F0 m 282 ls [])) :
    ∀ (D k : Nat) (H : Heap) (locs : List Loc) (ls : Array Slot), 5 - k < D → k ≤ 5 → hR g M H → va_S (gA g) s.heap H locs → lv_has ls 6 [(4, .int (nI k)), (1, .long (itr (as4w cs i) A k)), (3, .int (nI i)), (0, .ref x)] → W p l e R s m args below meth c H locs (c0 + 3 * k) (s0 + 18 * k) Q (F0 m 255 ls []) := by
  have hx := hc.1
  have hb := hc.2.1
  have b1 := hF.1.1
  have b2 := hF.1.2.1
  have b3 := hF.1.2.2.1
  have b4 := hF.1.2.2.2.1
  intro D
  induction D with
  | zero => intro k H locs ls hD; exact absurd hD (Nat.not_lt_zero _)
  | succ D ih =>
    intro k H locs ls hD hk hM hS hl
    refine lv_iload hx hb dL_asks_255 (lv_at hl 0 rfl) ?_
    refine lv_iconst (v := 5) hx hb dL_asks_257 (by decide) ?_
    refine lv_icmp_ge (tgt := 282) hx hb dL_asks_258 (by decide) (fun c_t => ?_) (fun c_t => ?_)
    · have hk9 : 5 ≤ k := (nI_leI (a := 5) (b := k) (by omega) (by omega)).mp c_t
      obtain rfl : k = 5 := by omega
      exact kk H locs ls hM hS (lv_sub hl [1, 2, 3] rfl)
    have hk9 : k < 5 := by
      rcases Nat.lt_or_ge k 5 with q | q
      · exact q
      · exact absurd (nI_le (a := 5) q (by omega)) c_t
    refine lv_ldc2 (v := 31) hx hb hc.2.2.2.1 (hc.2.2.2.2.1 _ qk_L_185) dL_asks_261 ?_
    refine lv_lload_n hx hb dL_asks_264 rfl (lv_at hl 1 rfl) ?_
    refine lv_lmul hx hb dL_asks_265 ?_
    refine lv_aload_n hx hb dL_asks_266 rfl (lv_at hl 3 rfl) ?_
    refine lv_iload_n hx hb dL_asks_267 rfl (lv_at hl 2 rfl) ?_
    refine lv_iload hx hb dL_asks_268 (lv_at hl 0 rfl) ?_
    refine k_SX1 hc [.ref x, .int (nI i), .int (nI k)] cw_L_224 dL_asks_270 (h_camelOf l hlf g M x cs (nI i) (nI k) hW) hM hS hl.1 rfl rfl ⟨by omega, by omega⟩ ⟨by omega, by omega⟩ (Nat.le_of_ble_eq_true rfl) (fun H locs hM hS => ?_)
    refine lv_i2l hx hb dL_asks_273 rfl ?_
    refine lv_ladd hx hb dL_asks_274 ?_
    refine lv_lstore_n (lv' := [(1, .long ((31 * (itr (as4w cs i) A k)) + (v_camelOf cs (nI i) (nI k)).toInt64)), (4, .int (nI k)), (3, .int (nI i)), (0, .ref x)]) hx hb dL_asks_275 rfl hl (by decide) (by rfl) (fun ls hl => ?_)
    refine lv_iinc (v := (nI (k + 1))) (lv' := [(4, .int (nI (k + 1))), (1, .long ((31 * (itr (as4w cs i) A k)) + (v_camelOf cs (nI i) (nI k)).toInt64)), (3, .int (nI i)), (0, .ref x)]) hx hb dL_asks_276 hl (k := 1) rfl (k_inc1 _) (by decide) rfl (fun ls hl => ?_)
    refine lv_goto (tgt := 255) hx hb dL_asks_279 (by decide) ?_
    refine W.widen (k := c0 + 3 * (k + 1)) (n := s0 + 18 * (k + 1)) (by omega) (by omega) (ih (k + 1) H locs ls (by omega) (by omega) hM hS (lv_sub hl [0, 1, 2, 3] rfl))
set_option maxHeartbeats 4000000 in
set_option maxRecDepth 100000 in
theorem as_242 (hc : Cx g p l s m args meth c cL_asks 6 RL) (hlf : l.stackTraces = false) (hW : ClsAt g M x cs) (hF : FI ns np nh nc t dh cu (cs 0)) (hfr : 14 ≤ R.frames) (hlo : 900 ≤ R.locals) {c0 s0 : Nat} (hce : (c0 + 21 * nc + 3) ≤ R.cells) (hsl : (s0 + 126 * nc + 18) ≤ R.slots) {A : Int64}
    (kk : ∀ (H : Heap) (locs : List Loc) (ls : Array Slot), hR g M H → va_S (gA g) s.heap H locs → lv_has ls 6 [(1, .long (itr (as4 cs) A nc)), (0, .ref x)] → W p l e R s m args below meth c H locs (c0 + 21 * nc + 3) (s0 + 126 * nc + 18) Q (F0 m 301 ls [])) :
    ∀ (D k : Nat) (H : Heap) (locs : List Loc) (ls : Array Slot), nc - k < D → k ≤ nc → hR g M H → va_S (gA g) s.heap H locs → lv_has ls 6 [(3, .int (nI k)), (1, .long (itr (as4 cs) A k)), (0, .ref x)] → W p l e R s m args below meth c H locs (c0 + 21 * k) (s0 + 126 * k) Q (F0 m 242 ls []) := by
  have hx := hc.1
  have hb := hc.2.1
  have b1 := hF.1.1
  have b2 := hF.1.2.1
  have b3 := hF.1.2.2.1
  have b4 := hF.1.2.2.2.1
  intro D
  induction D with
  | zero => intro k H locs ls hD; exact absurd hD (Nat.not_lt_zero _)
  | succ D ih =>
    intro k H locs ls hD hk hM hS hl
    refine lv_iload_n hx hb dL_asks_242 rfl (lv_at hl 0 rfl) ?_
    refine lv_aload_n hx hb dL_asks_243 rfl (lv_at hl 2 rfl) ?_
    refine lv_bipush (v := 8) hx hb dL_asks_244 (by decide) ?_
    have k1 := h_account l hlf g M x cs 8 hW
    rw [show v_account cs 8 = (nI nc) from ac_8 hF] at k1
    refine k_SX1 hc [.ref x, .int 8] cw_L_205 dL_asks_246 k1 hM hS hl.1 rfl rfl ⟨by omega, by omega⟩ ⟨by omega, by omega⟩ (Nat.le_of_ble_eq_true rfl) (fun H locs hM hS => ?_)
    refine lv_icmp_ge (tgt := 301) hx hb dL_asks_249 (by decide) (fun c_t => ?_) (fun c_t => ?_)
    · have hk9 : nc ≤ k := (nI_leI (a := nc) (b := k) (by omega) (by omega)).mp c_t
      obtain rfl : k = nc := by omega
      exact kk H locs ls hM hS (lv_sub hl [1, 2] rfl)
    have hk9 : k < nc := by
      rcases Nat.lt_or_ge k nc with q | q
      · exact q
      · exact absurd (nI_le (a := nc) q (by omega)) c_t
    refine lv_iconst (v := 0) hx hb dL_asks_252 (by decide) ?_
    refine lv_istore (lv' := [(4, .int 0), (3, .int (nI k)), (1, .long (itr (as4 cs) A k)), (0, .ref x)]) hx hb dL_asks_253 hl (by decide) rfl (fun ls hl => ?_)
    refine W.widen (k := ((c0 + 21 * k) + 3) + 3 * 0) (n := ((s0 + 126 * k) + 18) + 18 * 0) (by omega) (by omega) (as_255 (c0 := ((c0 + 21 * k) + 3)) (s0 := ((s0 + 126 * k) + 18)) (A := (itr (as4 cs) A k)) hc hlf hW hF hfr hlo hk9 (by omega) (by omega) (fun H locs ls hM hS hl => ?_) 6 0 H locs ls (by omega) (by omega) hM hS (lv_sub hl [0, 2, 1, 3] rfl))
    refine lv_ldc2 (v := 31) hx hb hc.2.2.2.1 (hc.2.2.2.2.1 _ qk_L_185) dL_asks_282 ?_
    refine lv_lload_n hx hb dL_asks_285 rfl (lv_at hl 0 rfl) ?_
    refine lv_lmul hx hb dL_asks_286 ?_
    refine lv_aload_n hx hb dL_asks_287 rfl (lv_at hl 2 rfl) ?_
    refine lv_iload_n hx hb dL_asks_288 rfl (lv_at hl 1 rfl) ?_
    refine k_SX1 hc [.ref x, .int (nI k)] cw_L_226 dL_asks_289 (h_lostIn l hlf g M x cs (nI k) hW) hM hS hl.1 rfl rfl ⟨by omega, by omega⟩ ⟨by omega, by omega⟩ (Nat.le_of_ble_eq_true rfl) (fun H locs hM hS => ?_)
    refine lv_i2l hx hb dL_asks_292 rfl ?_
    refine lv_ladd hx hb dL_asks_293 ?_
    refine lv_lstore_n (lv' := [(1, .long ((31 * (itr (as4w cs k) (itr (as4 cs) A k) 5)) + (v_lostIn cs (nI k)).toInt64)), (3, .int (nI k)), (0, .ref x)]) hx hb dL_asks_294 rfl hl (by decide) (by rfl) (fun ls hl => ?_)
    refine lv_iinc (v := (nI (k + 1))) (lv' := [(3, .int (nI (k + 1))), (1, .long ((31 * (itr (as4w cs k) (itr (as4 cs) A k) 5)) + (v_lostIn cs (nI k)).toInt64)), (0, .ref x)]) hx hb dL_asks_295 hl (k := 1) rfl (k_inc1 _) (by decide) rfl (fun ls hl => ?_)
    refine lv_goto (tgt := 242) hx hb dL_asks_298 (by decide) ?_
    refine W.widen (k := c0 + 21 * (k + 1)) (n := s0 + 126 * (k + 1)) (by omega) (by omega) (ih (k + 1) H locs ls (by omega) (by omega) hM hS (lv_sub hl [0, 1, 2] rfl))
set_option maxHeartbeats 4000000 in
set_option maxRecDepth 100000 in
theorem as_336 (hc : Cx g p l s m args meth c cL_asks 6 RL) (hlf : l.stackTraces = false) (hfr : 14 ≤ R.frames) (hlo : 900 ≤ R.locals) {u : CS} {i n : Nat} (hO : lsOk u) (hO9 : u 11 3 4 ≤ nI 79) (hn : n ≤ 79) {c0 s0 : Nat} (hce : c0 + 3 * n ≤ R.cells) (hsl : s0 + 18 * n ≤ R.slots) {A : Int64}
    (kk : ∀ (H : Heap) (locs : List Loc) (ls : Array Slot), hR g (putC g M x u) H → va_S (gA g) s.heap H locs → lv_has ls 6 [(1, .long (itr (as5c u) A n)), (3, .int (nI i)), (0, .ref x)] → W p l e R s m args below meth c H locs (c0 + 3 * n) (s0 + 18 * n) Q (F0 m 363 ls [])) :
    ∀ (D k : Nat) (H : Heap) (locs : List Loc) (ls : Array Slot), n - k < D → k ≤ n → hR g (putC g M x u) H → va_S (gA g) s.heap H locs → lv_has ls 6 [(5, .int (nI k)), (1, .long (itr (as5c u) A k)), (4, .int (nI n)), (3, .int (nI i)), (0, .ref x)] → W p l e R s m args below meth c H locs (c0 + 3 * k) (s0 + 18 * k) Q (F0 m 336 ls []) := by
  have hx := hc.1
  have hb := hc.2.1
  intro D
  induction D with
  | zero => intro k H locs ls hD; exact absurd hD (Nat.not_lt_zero _)
  | succ D ih =>
    intro k H locs ls hD hk hM hS hl
    refine lv_iload hx hb dL_asks_336 (lv_at hl 0 rfl) ?_
    refine lv_iload hx hb dL_asks_338 (lv_at hl 2 rfl) ?_
    refine lv_icmp_ge (tgt := 363) hx hb dL_asks_340 (by decide) (fun c_t => ?_) (fun c_t => ?_)
    · have hk9 : n ≤ k := (nI_leI (a := n) (b := k) (by omega) (by omega)).mp c_t
      obtain rfl : k = n := by omega
      exact kk H locs ls hM hS (lv_sub hl [1, 3, 4] rfl)
    have hk9 : k < n := by
      rcases Nat.lt_or_ge k n with q | q
      · exact q
      · exact absurd (nI_le (a := n) q (by omega)) c_t
    refine lv_ldc2 (v := 31) hx hb hc.2.2.2.1 (hc.2.2.2.2.1 _ qk_L_185) dL_asks_343 ?_
    refine lv_lload_n hx hb dL_asks_346 rfl (lv_at hl 1 rfl) ?_
    refine lv_lmul hx hb dL_asks_347 ?_
    refine lv_aload_n hx hb dL_asks_348 rfl (lv_at hl 4 rfl) ?_
    refine lv_iload hx hb dL_asks_349 (lv_at hl 0 rfl) ?_
    refine k_SX1 hc [.ref x, .int (nI k)] cw_L_163 dL_asks_351 (h_character l hlf g (putC g M x u) x u (nI k) ClsAt.put (hO) (hO9)) hM hS hl.1 rfl rfl ⟨by omega, by omega⟩ ⟨by omega, by omega⟩ (Nat.le_of_ble_eq_true rfl) (fun H locs hM hS => ?_)
    refine lv_i2l hx hb dL_asks_354 rfl ?_
    refine lv_ladd hx hb dL_asks_355 ?_
    refine lv_lstore_n (lv' := [(1, .long ((31 * (itr (as5c u) A k)) + (v_character u (nI k)).toInt64)), (5, .int (nI k)), (4, .int (nI n)), (3, .int (nI i)), (0, .ref x)]) hx hb dL_asks_356 rfl hl (by decide) (by rfl) (fun ls hl => ?_)
    refine lv_iinc (v := (nI (k + 1))) (lv' := [(5, .int (nI (k + 1))), (1, .long ((31 * (itr (as5c u) A k)) + (v_character u (nI k)).toInt64)), (4, .int (nI n)), (3, .int (nI i)), (0, .ref x)]) hx hb dL_asks_357 hl (k := 1) rfl (k_inc1 _) (by decide) rfl (fun ls hl => ?_)
    refine lv_goto (tgt := 336) hx hb dL_asks_360 (by decide) ?_
    refine W.widen (k := c0 + 3 * (k + 1)) (n := s0 + 18 * (k + 1)) (by omega) (by omega) (ih (k + 1) H locs ls (by omega) (by omega) hM hS (lv_sub hl [0, 1, 2, 3, 4] rfl))
theorem as5_P {a : CS} {A : Int64} (h : LnO a) : ∀ n, LnP a (itr as5 (A, a) n).2
  | 0 => ⟨LnE.rf, h⟩
  | n + 1 => LnP.line (as5_P h n)
theorem line_n {u : CS} {h : Int32} (hq : hasSh (u 0) h) (hO : LnO u) : ∃ n, n ≤ 79 ∧ v_line u h = nI n ∧ lsOk (s_line u h) ∧ s_line u h 11 3 4 ≤ nI 79 := by
  obtain ⟨-, h1, n, hn, e⟩ := LnP.line (x := h) (show LnP u u from ⟨LnE.rf, hO⟩)
  refine ⟨n, hn, ?_, h1, by rw [e]; exact nI_le hn (by decide)⟩
  rw [← e]
  unfold v_line s_line
  rw [if_pos hq, if_pos hq]
set_option maxHeartbeats 4000000 in
set_option maxRecDepth 100000 in
theorem as_303 (hc : Cx g p l s m args meth c cL_asks 6 RL) (hlf : l.stackTraces = false) (hW : ClsAt g M x cs) (hF : FI ns np nh nc t dh cu (cs 0)) (hfr : 14 ≤ R.frames) (hlo : 900 ≤ R.locals) (hO : LnO cs) {c0 s0 : Nat} (hce : (c0 + 246 * nh + 3) ≤ R.cells) (hsl : (s0 + 1476 * nh + 18) ≤ R.slots) {A : Int64}
    (kk : ∀ (H : Heap) (locs : List Loc) (ls : Array Slot), hR g (putC g M x (itr as5 (A, cs) nh).2) H → va_S (gA g) s.heap H locs → lv_has ls 6 [(1, .long ((itr as5 (A, cs) nh).1)), (0, .ref x)] → W p l e R s m args below meth c H locs (c0 + 246 * nh + 3) (s0 + 1476 * nh + 18) Q (F0 m 369 ls [])) :
    ∀ (D k : Nat) (H : Heap) (locs : List Loc) (ls : Array Slot), nh - k < D → k ≤ nh → hR g (putC g M x (itr as5 (A, cs) k).2) H → va_S (gA g) s.heap H locs → lv_has ls 6 [(3, .int (nI k)), (1, .long ((itr as5 (A, cs) k).1)), (0, .ref x)] → W p l e R s m args below meth c H locs (c0 + 246 * k) (s0 + 1476 * k) Q (F0 m 303 ls []) := by
  have hx := hc.1
  have hb := hc.2.1
  have b1 := hF.1.1
  have b2 := hF.1.2.1
  have b3 := hF.1.2.2.1
  have b4 := hF.1.2.2.2.1
  intro D
  induction D with
  | zero => intro k H locs ls hD; exact absurd hD (Nat.not_lt_zero _)
  | succ D ih =>
    intro k H locs ls hD hk hM hS hl
    have hu0 : (itr as5 (A, cs) k).2 0 = cs 0 := (as5_P hO k).1.1 0 (by omega)
    have hFu : FI ns np nh nc t dh cu ((itr as5 (A, cs) k).2 0) := by rw [hu0]; exact hF
    refine lv_iload_n hx hb dL_asks_303 rfl (lv_at hl 0 rfl) ?_
    refine lv_aload_n hx hb dL_asks_304 rfl (lv_at hl 2 rfl) ?_
    refine lv_bipush (v := 6) hx hb dL_asks_305 (by decide) ?_
    have k1 := h_account l hlf g (putC g M x ((itr as5 (A, cs) k).2)) x (itr as5 (A, cs) k).2 6 ClsAt.put
    rw [show v_account (itr as5 (A, cs) k).2 6 = (nI nh) from ac_6 hFu] at k1
    refine k_SX1 hc [.ref x, .int 6] cw_L_205 dL_asks_307 k1 hM hS hl.1 rfl rfl ⟨by omega, by omega⟩ ⟨by omega, by omega⟩ (Nat.le_of_ble_eq_true rfl) (fun H locs hM hS => ?_)
    refine lv_icmp_ge (tgt := 369) hx hb dL_asks_310 (by decide) (fun c_t => ?_) (fun c_t => ?_)
    · have hk9 : nh ≤ k := (nI_leI (a := nh) (b := k) (by omega) (by omega)).mp c_t
      obtain rfl : k = nh := by omega
      exact kk H locs ls hM hS (lv_sub hl [1, 2] rfl)
    have hk9 : k < nh := by
      rcases Nat.lt_or_ge k nh with q | q
      · exact q
      · exact absurd (nI_le (a := nh) q (by omega)) c_t
    obtain ⟨n, hn, en, hO1, hO2⟩ := line_n (u := (itr as5 (A, cs) k).2) (h := nI k) (hFu.iH.mpr ⟨k, hk9, rfl⟩) (as5_P hO k).2
    refine lv_ldc2 (v := 31) hx hb hc.2.2.2.1 (hc.2.2.2.2.1 _ qk_L_185) dL_asks_313 ?_
    refine lv_lload_n hx hb dL_asks_316 rfl (lv_at hl 1 rfl) ?_
    refine lv_lmul hx hb dL_asks_317 ?_
    refine lv_aload_n hx hb dL_asks_318 rfl (lv_at hl 2 rfl) ?_
    refine lv_iload_n hx hb dL_asks_319 rfl (lv_at hl 0 rfl) ?_
    refine k_SX1 hc [.ref x, .int (nI k)] cw_L_228 dL_asks_320 (h_wrongBy l hlf g (putC g M x ((itr as5 (A, cs) k).2)) x (itr as5 (A, cs) k).2 (nI k) ClsAt.put) hM hS hl.1 rfl rfl ⟨by omega, by omega⟩ ⟨by omega, by omega⟩ (Nat.le_of_ble_eq_true rfl) (fun H locs hM hS => ?_)
    refine lv_i2l hx hb dL_asks_323 rfl ?_
    refine lv_ladd hx hb dL_asks_324 ?_
    refine lv_lstore_n (lv' := [(1, .long ((31 * ((itr as5 (A, cs) k).1)) + (v_wrongBy (itr as5 (A, cs) k).2 (nI k)).toInt64)), (3, .int (nI k)), (0, .ref x)]) hx hb dL_asks_325 rfl hl (by decide) (by rfl) (fun ls hl => ?_)
    refine lv_aload_n hx hb dL_asks_326 rfl (lv_at hl 2 rfl) ?_
    refine lv_iload_n hx hb dL_asks_327 rfl (lv_at hl 1 rfl) ?_
    have k2 := h_line l hlf g (putC g M x ((itr as5 (A, cs) k).2)) x (itr as5 (A, cs) k).2 (nI k) ClsAt.put
    rw [show v_line (itr as5 (A, cs) k).2 (nI k) = (nI n) from en] at k2
    obtain ⟨u9, e_u9⟩ : ∃ c9, s_line (itr as5 (A, cs) k).2 (nI k) = c9 := ⟨_, rfl⟩
    rw [e_u9, putC_putC] at k2
    refine k_SX1 hc [.ref x, .int (nI k)] cw_L_161 dL_asks_328 k2 hM hS hl.1 rfl rfl ⟨by omega, by omega⟩ ⟨by omega, by omega⟩ (Nat.le_of_ble_eq_true rfl) (fun H locs hM hS => ?_)
    rw [e_u9] at hO1 hO2
    refine lv_istore (lv' := [(4, .int (nI n)), (1, .long ((31 * ((itr as5 (A, cs) k).1)) + (v_wrongBy (itr as5 (A, cs) k).2 (nI k)).toInt64)), (3, .int (nI k)), (0, .ref x)]) hx hb dL_asks_331 hl (by decide) rfl (fun ls hl => ?_)
    refine lv_iconst (v := 0) hx hb dL_asks_333 (by decide) ?_
    refine lv_istore (lv' := [(5, .int 0), (4, .int (nI n)), (1, .long ((31 * ((itr as5 (A, cs) k).1)) + (v_wrongBy (itr as5 (A, cs) k).2 (nI k)).toInt64)), (3, .int (nI k)), (0, .ref x)]) hx hb dL_asks_334 hl (by decide) rfl (fun ls hl => ?_)
    refine W.widen (k := ((c0 + 246 * k) + 9) + 3 * 0) (n := ((s0 + 1476 * k) + 54) + 18 * 0) (by omega) (by omega) (as_336 (c0 := ((c0 + 246 * k) + 9)) (s0 := ((s0 + 1476 * k) + 54)) (A := ((31 * ((itr as5 (A, cs) k).1)) + (v_wrongBy (itr as5 (A, cs) k).2 (nI k)).toInt64)) hc hlf hfr hlo hO1 hO2 hn (by omega) (by omega) (fun H locs ls hM hS hl => ?_) (n + 1) 0 H locs ls (by omega) (by omega) hM hS (lv_sub hl [0, 2, 1, 3, 4] rfl))
    have e5 : itr as5 (A, cs) (k + 1) = (itr (as5c u9) ((31 * ((itr as5 (A, cs) k).1)) + (v_wrongBy (itr as5 (A, cs) k).2 (nI k)).toInt64) n, u9) := by
      exact as5_at en hn e_u9
    refine lv_iinc (v := (nI (k + 1))) (lv' := [(3, .int (nI (k + 1))), (1, .long (itr (as5c u9) ((31 * ((itr as5 (A, cs) k).1)) + (v_wrongBy (itr as5 (A, cs) k).2 (nI k)).toInt64) n)), (0, .ref x)]) hx hb dL_asks_363 hl (k := 1) rfl (k_inc1 _) (by decide) rfl (fun ls hl => ?_)
    refine lv_goto (tgt := 303) hx hb dL_asks_366 (by decide) ?_
    refine W.widen (k := c0 + 246 * (k + 1)) (n := s0 + 1476 * (k + 1)) (by omega) (by omega) (ih (k + 1) H locs ls (by omega) (by omega) (by rw [e5]; exact hM) hS (by rw [e5]; exact lv_sub hl [0, 1, 2] rfl))
end AS
set_option maxHeartbeats 4000000 in
set_option maxRecDepth 100000 in
theorem c_L_asks (l : Launch) (hlf : l.stackTraces = false) (g : GC) (M : HM) (x : Nat) (cs : CS) {ns np nh nc t dh cu : Nat} (hW : ClsAt g M x cs) (hF : FI ns np nh nc t dh cu (cs 0)) (hO : LnO cs) : KM g l yL_asks cL_asks 6 (some .long) 15 2000 12000 [.ref x] M (.inl (some (.long (askV cs ns np nh nc)), putC g M x (askS cs ns np nh nc))) := by
  refine k_meth hlf (by decide) (Nat.le_of_ble_eq_true rfl) fun p e s m below meth c ls hc hr hnx hM hS hl => ?_
  have hc : Cx g p l s m [.ref x].toArray meth c cL_asks 6 RL := hc
  have hx := hc.1
  have hb := hc.2.1
  have b1 := hF.1.1
  have b2 := hF.1.2.1
  have b3 := hF.1.2.2.1
  have b4 := hF.1.2.2.2.1
  have hl : lv_has ls 6 [(0, .ref x)] := hl
  refine lv_ldc2 (v := 31) hx hb hc.2.2.2.1 (hc.2.2.2.2.1 _ qk_L_185) dL_asks_0 ?_
  refine lv_aload_n hx hb dL_asks_3 rfl (lv_at hl 0 rfl) ?_
  refine k_SX1 hc [.ref x] cw_L_187 dL_asks_4 (h_rightShare l hlf g M x cs hW (hF.share.1)) hM hS hl.1 rfl rfl ⟨Nat.le_of_ble_eq_true rfl, Nat.le_of_ble_eq_true rfl⟩ ⟨Nat.le_of_ble_eq_true rfl, Nat.le_of_ble_eq_true rfl⟩ (Nat.le_of_ble_eq_true rfl) (fun H locs hM hS => ?_)
  refine k_S1 hc [.double (v_rightShare cs)] cw_L_190 dL_asks_7 (c_Jxe99ae_bits l hlf g _ _ hF.share.2) hM hS hl.1 rfl rfl ⟨Nat.le_of_ble_eq_true rfl, Nat.le_of_ble_eq_true rfl⟩ ⟨Nat.le_of_ble_eq_true rfl, Nat.le_of_ble_eq_true rfl⟩ (Nat.le_of_ble_eq_true rfl) (fun H locs hM hS => ?_)
  refine lv_lmul hx hb dL_asks_10 ?_
  refine lv_aload_n hx hb dL_asks_11 rfl (lv_at hl 0 rfl) ?_
  refine k_SX1 hc [.ref x] cw_L_196 dL_asks_12 (h_meanThirst l hlf g M x cs hW (hF.mean.1)) hM hS hl.1 rfl rfl ⟨Nat.le_of_ble_eq_true rfl, Nat.le_of_ble_eq_true rfl⟩ ⟨Nat.le_of_ble_eq_true rfl, Nat.le_of_ble_eq_true rfl⟩ (Nat.le_of_ble_eq_true rfl) (fun H locs hM hS => ?_)
  refine k_S1 hc [.float (v_meanThirst cs)] cw_L_199 dL_asks_15 (c_Jxf58ca_bits l hlf g _ _ hF.mean.2) hM hS hl.1 rfl rfl ⟨Nat.le_of_ble_eq_true rfl, Nat.le_of_ble_eq_true rfl⟩ ⟨Nat.le_of_ble_eq_true rfl, Nat.le_of_ble_eq_true rfl⟩ (Nat.le_of_ble_eq_true rfl) (fun H locs hM hS => ?_)
  refine lv_i2l hx hb dL_asks_18 rfl ?_
  refine lv_ladd hx hb dL_asks_19 ?_
  refine lv_lstore_n (lv' := [(1, .long ((31 * (v_rightShare cs).toInt64) + ((v_meanThirst cs).toInt32).toInt64)), (0, .ref x)]) hx hb dL_asks_20 rfl hl (by decide) (by rfl) (fun ls hl => ?_)
  refine lv_iconst (v := 0) hx hb dL_asks_21 (by decide) ?_
  refine lv_istore_n (lv' := [(3, .int 0), (1, .long ((31 * (v_rightShare cs).toInt64) + ((v_meanThirst cs).toInt32).toInt64)), (0, .ref x)]) hx hb dL_asks_22 rfl hl (by decide) rfl (fun ls hl => ?_)
  have hfr : 14 ≤ (rmOf 15 2000 12000).frames := Nat.le_of_ble_eq_true rfl
  have hlo : 900 ≤ (rmOf 15 2000 12000).locals := Nat.le_of_ble_eq_true rfl
  refine W.widen (k := 6 + 3 * 0) (n := 36 + 18 * 0) (by omega) (by omega) (as_23 (c0 := 6) (s0 := 36) (A := (as0 cs)) hc hlf hW hF hfr hlo (by show _ ≤ 2000; omega) (by show _ ≤ 12000; omega) (fun H locs ls hM hS hl => ?_) (15 + 1) 0 H locs ls (by omega) (by omega) hM hS (lv_sub hl [0, 1, 2] rfl))
  refine lv_iconst (v := 0) hx hb dL_asks_48 (by decide) ?_
  refine lv_istore_n (lv' := [(3, .int 0), (1, .long (itr (as1 cs) (as0 cs) 15)), (0, .ref x)]) hx hb dL_asks_49 rfl hl (by decide) rfl (fun ls hl => ?_)
  refine W.widen (k := 51 + 93 * 0) (n := 306 + 558 * 0) (by omega) (by omega) (as_50 (c0 := 51) (s0 := 306) (A := (itr (as1 cs) (as0 cs) 15)) hc hlf hW hF hfr hlo (by show _ ≤ 2000; omega) (by show _ ≤ 12000; omega) (fun H locs ls hM hS hl => ?_) (ns + 1) 0 H locs ls (by omega) (by omega) hM hS (lv_sub hl [0, 1, 2] rfl))
  refine lv_iconst (v := 0) hx hb dL_asks_197 (by decide) ?_
  refine lv_istore_n (lv' := [(3, .int 0), (1, .long (itr (as2 cs np nh) (itr (as1 cs) (as0 cs) 15) ns)), (0, .ref x)]) hx hb dL_asks_198 rfl hl (by decide) rfl (fun ls hl => ?_)
  refine W.widen (k := (51 + 93 * ns + 3) + 9 * 0) (n := (306 + 558 * ns + 18) + 54 * 0) (by omega) (by omega) (as_199 (c0 := (51 + 93 * ns + 3)) (s0 := (306 + 558 * ns + 18)) (A := (itr (as2 cs np nh) (itr (as1 cs) (as0 cs) 15) ns)) hc hlf hW hF hfr hlo (by show _ ≤ 2000; omega) (by show _ ≤ 12000; omega) (fun H locs ls hM hS hl => ?_) (np + 1) 0 H locs ls (by omega) (by omega) hM hS (lv_sub hl [0, 1, 2] rfl))
  refine lv_iconst (v := 0) hx hb dL_asks_240 (by decide) ?_
  refine lv_istore_n (lv' := [(3, .int 0), (1, .long (itr (as3 cs) (itr (as2 cs np nh) (itr (as1 cs) (as0 cs) 15) ns) np)), (0, .ref x)]) hx hb dL_asks_241 rfl hl (by decide) rfl (fun ls hl => ?_)
  refine W.widen (k := ((51 + 93 * ns + 3) + 9 * np + 3) + 21 * 0) (n := ((306 + 558 * ns + 18) + 54 * np + 18) + 126 * 0) (by omega) (by omega) (as_242 (c0 := ((51 + 93 * ns + 3) + 9 * np + 3)) (s0 := ((306 + 558 * ns + 18) + 54 * np + 18)) (A := (itr (as3 cs) (itr (as2 cs np nh) (itr (as1 cs) (as0 cs) 15) ns) np)) hc hlf hW hF hfr hlo (by show _ ≤ 2000; omega) (by show _ ≤ 12000; omega) (fun H locs ls hM hS hl => ?_) (nc + 1) 0 H locs ls (by omega) (by omega) hM hS (lv_sub hl [0, 1, 2] rfl))
  refine lv_iconst (v := 0) hx hb dL_asks_301 (by decide) ?_
  refine lv_istore_n (lv' := [(3, .int 0), (1, .long (itr (as4 cs) (itr (as3 cs) (itr (as2 cs np nh) (itr (as1 cs) (as0 cs) 15) ns) np) nc)), (0, .ref x)]) hx hb dL_asks_302 rfl hl (by decide) rfl (fun ls hl => ?_)
  have hM : hR g (putC g M x (itr as5 ((itr (as4 cs) (itr (as3 cs) (itr (as2 cs np nh) (itr (as1 cs) (as0 cs) 15) ns) np) nc), cs) 0).2) H := hR.eq hM (putC_same hW).symm
  refine W.widen (k := (((51 + 93 * ns + 3) + 9 * np + 3) + 21 * nc + 3) + 246 * 0) (n := (((306 + 558 * ns + 18) + 54 * np + 18) + 126 * nc + 18) + 1476 * 0) (by omega) (by omega) (as_303 (c0 := (((51 + 93 * ns + 3) + 9 * np + 3) + 21 * nc + 3)) (s0 := (((306 + 558 * ns + 18) + 54 * np + 18) + 126 * nc + 18)) (A := (itr (as4 cs) (itr (as3 cs) (itr (as2 cs np nh) (itr (as1 cs) (as0 cs) 15) ns) np) nc)) hc hlf hW hF hfr hlo hO (by show _ ≤ 2000; omega) (by show _ ≤ 12000; omega) (fun H locs ls hM hS hl => ?_) (nh + 1) 0 H locs ls (by omega) (by omega) hM hS (lv_sub hl [0, 1, 2] rfl))
  have hM : hR g (putC g M x (asB cs ns np nh nc).2) H := hM
  have hl : lv_has ls 6 [(1, .long (asB cs ns np nh nc).1), (0, .ref x)] := hl
  refine lv_ldc2 (v := 31) hx hb hc.2.2.2.1 (hc.2.2.2.2.1 _ qk_L_185) dL_asks_369 ?_
  refine lv_ldc2 (v := 31) hx hb hc.2.2.2.1 (hc.2.2.2.2.1 _ qk_L_185) dL_asks_372 ?_
  refine lv_ldc2 (v := 31) hx hb hc.2.2.2.1 (hc.2.2.2.2.1 _ qk_L_185) dL_asks_375 ?_
  refine lv_lload_n hx hb dL_asks_378 rfl (lv_at hl 0 rfl) ?_
  refine lv_lmul hx hb dL_asks_379 ?_
  refine lv_aload_n hx hb dL_asks_380 rfl (lv_at hl 1 rfl) ?_
  refine lv_bipush (v := 7) hx hb dL_asks_381 (by decide) ?_
  refine k_SX1 hc [.ref x, .int 7] cw_L_230 dL_asks_383 (h_heatIn l hlf g (putC g M x ((asB cs ns np nh nc).2)) x (asB cs ns np nh nc).2 7 ClsAt.put) hM hS hl.1 rfl rfl ⟨Nat.le_of_ble_eq_true rfl, Nat.le_of_ble_eq_true rfl⟩ ⟨by show ((((51 + 93 * ns + 3) + 9 * np + 3) + 21 * nc + 3) + 246 * nh + 3) + 3 ≤ 2000; omega, by show ((((306 + 558 * ns + 18) + 54 * np + 18) + 126 * nc + 18) + 1476 * nh + 18) + 18 ≤ 12000; omega⟩ (Nat.le_of_ble_eq_true rfl) (fun H locs hM hS => ?_)
  refine lv_i2l hx hb dL_asks_386 rfl ?_
  refine lv_ladd hx hb dL_asks_387 ?_
  refine lv_lmul hx hb dL_asks_388 ?_
  refine lv_aload_n hx hb dL_asks_389 rfl (lv_at hl 1 rfl) ?_
  refine lv_iconst (v := 0) hx hb dL_asks_390 (by decide) ?_
  refine k_SX1 hc [.ref x, .int 0] cw_L_232 dL_asks_391 (h_nearest l hlf g (putC g M x ((asB cs ns np nh nc).2)) x (asB cs ns np nh nc).2 0 ClsAt.put) hM hS hl.1 rfl rfl ⟨Nat.le_of_ble_eq_true rfl, Nat.le_of_ble_eq_true rfl⟩ ⟨by show ((((51 + 93 * ns + 3) + 9 * np + 3) + 21 * nc + 3) + 246 * nh + 6) + 3 ≤ 2000; omega, by show ((((306 + 558 * ns + 18) + 54 * np + 18) + 126 * nc + 18) + 1476 * nh + 36) + 18 ≤ 12000; omega⟩ (Nat.le_of_ble_eq_true rfl) (fun H locs hM hS => ?_)
  refine lv_i2l hx hb dL_asks_394 rfl ?_
  refine lv_ladd hx hb dL_asks_395 ?_
  refine lv_lmul hx hb dL_asks_396 ?_
  refine lv_aload_n hx hb dL_asks_397 rfl (lv_at hl 1 rfl) ?_
  refine lv_bipush (v := 50) hx hb dL_asks_398 (by decide) ?_
  refine k_SX1 hc [.ref x, .int 50] cw_L_232 dL_asks_400 (h_nearest l hlf g (putC g M x ((asB cs ns np nh nc).2)) x (asB cs ns np nh nc).2 50 ClsAt.put) hM hS hl.1 rfl rfl ⟨Nat.le_of_ble_eq_true rfl, Nat.le_of_ble_eq_true rfl⟩ ⟨by show ((((51 + 93 * ns + 3) + 9 * np + 3) + 21 * nc + 3) + 246 * nh + 9) + 3 ≤ 2000; omega, by show ((((306 + 558 * ns + 18) + 54 * np + 18) + 126 * nc + 18) + 1476 * nh + 54) + 18 ≤ 12000; omega⟩ (Nat.le_of_ble_eq_true rfl) (fun H locs hM hS => ?_)
  refine lv_i2l hx hb dL_asks_403 rfl ?_
  refine lv_ladd hx hb dL_asks_404 ?_
  exact k_lret hc hr dL_asks_405 hM hS (by show ((((51 + 93 * ns + 3) + 9 * np + 3) + 21 * nc + 3) + 246 * nh + 12) ≤ 2000; omega) (by show ((((306 + 558 * ns + 18) + 54 * np + 18) + 126 * nc + 18) + 1476 * nh + 72) ≤ 12000; omega) rfl
