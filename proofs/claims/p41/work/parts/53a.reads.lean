/-! reads(o, x): a text put sign by sign, and carried out -/
theorem putC_none {g : GC} {M M0 : HM} {x q : Nat} {cs c2 : CS} (hW : ClsAt g M0 x cs) (h : M0 q = none) : putC g M x c2 q = M q := by
  unfold putC
  by_cases hq : x ≤ q ∧ q < x + 196
  · have h1 := hW (q - x) (by omega)
    rw [show x + (q - x) = q by omega, h] at h1
    cases h1
  · rw [if_neg hq]
theorem ap_tx {ch : Nat → Int32} {cs : CS} {i : Nat} (h1 : cs 11 3 1 = 0) (hi : i < 60) : v_append (txS ch cs i) (ch i) = nI (i + 1) ∧ s_append (txS ch cs i) (ch i) = txS ch cs (i + 1) := by
  have q1 := (txS_f (b := ch) h1 i (by omega)).1
  have q2 := (txS_f (b := ch) h1 (i + 1) (by omega)).1
  have hlt : txS ch cs i 11 3 1 < nI 60 := by rw [q1]; exact nI_lt hi (by decide)
  unfold v_append s_append
  rw [if_pos hlt, if_pos hlt, ← txS_s]
  exact ⟨q2, rfl⟩
theorem cw_L_142 : CwV RL RJ0 142 0 yJ0_length_8abf5 cJ0_length_8abf5 1 (some .int) := ⟨q_L_142, qi_J0_length_8abf5, qs_J0_length_8abf5, qn_String, qc_J0_length_8abf5, rfl, by decide, by decide, by decide +kernel⟩
theorem cw_L_147 : CwV RL RJ0 147 1 yJ0_charAt_5068e cJ0_charAt_5068e 2 (some .char) := ⟨q_L_147, qi_J0_charAt_5068e, qs_J0_charAt_5068e, qn_String, qc_J0_charAt_5068e, rfl, by decide, by decide, by decide +kernel⟩
section RD
variable {p : Program} {l : Launch} {e : Env} {R : Room} {s : State} {m : MethodId} {args : Array Value} {below : List Frame} {meth : Method} {c : Code} {Q : State → Prop} {g : GC} {M : HM} {x : Nat} {cs : CS}
set_option maxHeartbeats 4000000 in
theorem rd_J (hc : Cx g p l s m args meth c cL_reads 3 RL) (hlf : l.stackTraces = false) (hfr : 11 ≤ R.frames) (hlo : 700 ≤ R.locals) {i9 : Nat} {b : List Int32} (hi9 : lw_by[i9]? = some b) (hbl : b.length ≤ 16) (hbc : ∀ k, chOk (chI b k)) (hz : cs 11 3 1 = 0) {c0 s0 : Nat} (hce : c0 + 3 * b.length ≤ R.cells) (hsl : s0 + 18 * b.length ≤ R.slots)
    (kk : ∀ (H : Heap) (locs : List Loc) (ls : Array Slot), hR g (putC g M x (txS (chI b) cs b.length)) H → va_S (gA g) s.heap H locs → lv_has ls 3 [(2, .int (nI b.length)), (0, .ref x), (1, .ref (g.2.2.2.1 i9))] → W p l e R s m args below meth c H locs (c0 + 3 * b.length) (s0 + 18 * b.length) Q (F0 m 35 ls [])) :
    ∀ (D k : Nat) (H : Heap) (locs : List Loc) (ls : Array Slot), b.length - k < D → k ≤ b.length → hR g (putC g M x (txS (chI b) cs k)) H → va_S (gA g) s.heap H locs → lv_has ls 3 [(2, .int (nI k)), (0, .ref x), (1, .ref (g.2.2.2.1 i9))] → W p l e R s m args below meth c H locs (c0 + 3 * k) (s0 + 18 * k) Q (F0 m 2 ls []) := by
  have hx := hc.1
  have hb := hc.2.1
  intro D
  induction D with
  | zero => intro k H locs ls hD; exact absurd hD (Nat.not_lt_zero _)
  | succ D ih =>
    intro k H locs ls hD hk hM hS hl
    refine lv_iload_n hx hb dL_reads_2 rfl (lv_at hl 0 rfl) ?_
    refine lv_aload_n hx hb dL_reads_3 rfl (lv_at hl 2 rfl) ?_
    refine k_VJ hc [] hi9 cw_L_142 dL_reads_4 (c_J0_length l hlf g _ i9 b hi9 (by omega)) hM hS hl.1 rfl rfl ⟨by omega, by omega⟩ ⟨by omega, by omega⟩ (Nat.le_of_ble_eq_true rfl) (fun H locs hM hS => ?_)
    refine lv_icmp_ge (tgt := 35) hx hb dL_reads_7 (by decide) (fun c_t => ?_) (fun c_t => ?_)
    · have hk9 : b.length ≤ k := (nI_leI (a := b.length) (b := k) (by omega) (by omega)).mp c_t
      have hkn : k = b.length := by omega
      subst hkn
      exact kk H locs ls hM hS hl
    have hk9 : k < b.length := by
      rcases Nat.lt_or_ge k b.length with q | q
      · exact q
      · exact absurd (nI_le (a := b.length) q (by omega)) c_t
    obtain ⟨e1, e2⟩ := ap_tx (ch := (chI b)) (cs := cs) (i := k) hz (by omega)
    refine lv_aload_n hx hb dL_reads_10 rfl (lv_at hl 1 rfl) ?_
    refine lv_aload_n hx hb dL_reads_11 rfl (lv_at hl 2 rfl) ?_
    refine lv_iload_n hx hb dL_reads_12 rfl (lv_at hl 0 rfl) ?_
    refine k_VJ hc [.int (nI k)] hi9 cw_L_147 dL_reads_13 (c_J0_charAt l hlf g _ i9 b k hi9 (by omega) hk9) hM hS hl.1 rfl rfl ⟨by omega, by omega⟩ ⟨by omega, by omega⟩ (Nat.le_of_ble_eq_true rfl) (fun H locs hM hS => ?_)
    have k1 := h_append l hlf g (putC g M x (txS (chI b) cs k)) x (txS (chI b) cs k) (chI b k) ClsAt.put (hbc k)
    rw [show v_append (txS (chI b) cs k) (chI b k) = nI (k + 1) from e1, show s_append (txS (chI b) cs k) (chI b k) = txS (chI b) cs (k + 1) from e2, putC_putC] at k1
    refine k_SX1 hc [.ref x, .int (chI b k)] cw_L_150 dL_reads_16 k1 hM hS hl.1 rfl rfl ⟨by omega, by omega⟩ ⟨by omega, by omega⟩ (Nat.le_of_ble_eq_true rfl) (fun H locs hM hS => ?_)
    refine lv_iload_n hx hb dL_reads_19 rfl (lv_at hl 0 rfl) ?_
    refine lv_iconst (v := 1) hx hb dL_reads_20 (by decide) ?_
    refine lv_iadd hx hb dL_reads_21 ?_
    rw [nI_1]
    refine lv_icmp_eq (tgt := 29) hx hb dL_reads_22 (by decide) (fun _ => ?_) (fun h => absurd rfl h)
    refine lv_iinc (v := nI (k + 1)) (lv' := [(2, .int (nI (k + 1))), (0, .ref x), (1, .ref (g.2.2.2.1 i9))]) hx hb dL_reads_29 hl (k := 0) rfl (k_inc1 _) (by decide) rfl (fun ls hl => ?_)
    refine lv_goto (tgt := 2) hx hb dL_reads_32 (by decide) ?_
    refine W.widen (k := c0 + 3 * (k + 1)) (n := s0 + 18 * (k + 1)) (by omega) (by omega) (ih (k + 1) H locs ls (by omega) (by omega) hM hS (lv_sub hl [0, 1, 2] rfl))
set_option maxHeartbeats 4000000 in
theorem rd_S (hc : Cx g p l s m args meth c cL_reads 3 RL) (hlf : l.stackTraces = false) (hfr : 11 ≤ R.frames) (hlo : 700 ≤ R.locals) {b n x9 : Nat} {h1 h2 : Value} {f : Nat → Int32} (hb9 : ∀ c9, putC g M x c9 b = some (.inr (0, [.ref x9, .int 0, h1, h2]))) (hx9 : ∀ c9, putC g M x c9 x9 = some (.inl (gD g, n, .inl f))) (hbl : n ≤ 16) (hz : cs 11 3 1 = 0) {c0 s0 : Nat} (hce : c0 + 3 * n ≤ R.cells) (hsl : s0 + 18 * n ≤ R.slots)
    (kk : ∀ (H : Heap) (locs : List Loc) (ls : Array Slot), hR g (putC g M x (txS (fun k => f k &&& 255) cs n)) H → va_S (gA g) s.heap H locs → lv_has ls 3 [(2, .int (nI n)), (0, .ref x), (1, .ref b)] → W p l e R s m args below meth c H locs (c0 + 3 * n) (s0 + 18 * n) Q (F0 m 35 ls [])) :
    ∀ (D k : Nat) (H : Heap) (locs : List Loc) (ls : Array Slot), n - k < D → k ≤ n → hR g (putC g M x (txS (fun k => f k &&& 255) cs k)) H → va_S (gA g) s.heap H locs → lv_has ls 3 [(2, .int (nI k)), (0, .ref x), (1, .ref b)] → W p l e R s m args below meth c H locs (c0 + 3 * k) (s0 + 18 * k) Q (F0 m 2 ls []) := by
  have hx := hc.1
  have hb := hc.2.1
  intro D
  induction D with
  | zero => intro k H locs ls hD; exact absurd hD (Nat.not_lt_zero _)
  | succ D ih =>
    intro k H locs ls hD hk hM hS hl
    refine lv_iload_n hx hb dL_reads_2 rfl (lv_at hl 0 rfl) ?_
    refine lv_aload_n hx hb dL_reads_3 rfl (lv_at hl 2 rfl) ?_
    refine k_V1 hc [] cw_L_142 (ci := 0) rfl dL_reads_4 (c_S0_length l hlf g _ b n x9 h1 h2 f (hb9 _) (hx9 _) (by omega)) (hb9 _) hM hS hl.1 rfl rfl ⟨by omega, by omega⟩ ⟨by omega, by omega⟩ (Nat.le_of_ble_eq_true rfl) (fun H locs hM hS => ?_)
    refine lv_icmp_ge (tgt := 35) hx hb dL_reads_7 (by decide) (fun c_t => ?_) (fun c_t => ?_)
    · have hk9 : n ≤ k := (nI_leI (a := n) (b := k) (by omega) (by omega)).mp c_t
      have hkn : k = n := by omega
      subst hkn
      exact kk H locs ls hM hS hl
    have hk9 : k < n := by
      rcases Nat.lt_or_ge k n with q | q
      · exact q
      · exact absurd (nI_le (a := n) q (by omega)) c_t
    obtain ⟨e1, e2⟩ := ap_tx (ch := (fun k => f k &&& 255)) (cs := cs) (i := k) hz (by omega)
    refine lv_aload_n hx hb dL_reads_10 rfl (lv_at hl 1 rfl) ?_
    refine lv_aload_n hx hb dL_reads_11 rfl (lv_at hl 2 rfl) ?_
    refine lv_iload_n hx hb dL_reads_12 rfl (lv_at hl 0 rfl) ?_
    refine k_V1 hc [.int (nI k)] cw_L_147 (ci := 0) rfl dL_reads_13 (c_S0_charAt l hlf g _ b n x9 h1 h2 f (hb9 _) (hx9 _) k hk9 (by omega)) (hb9 _) hM hS hl.1 rfl rfl ⟨by omega, by omega⟩ ⟨by omega, by omega⟩ (Nat.le_of_ble_eq_true rfl) (fun H locs hM hS => ?_)
    have k1 := h_append l hlf g (putC g M x (txS (fun k => f k &&& 255) cs k)) x (txS (fun k => f k &&& 255) cs k) (f k &&& 255) ClsAt.put (sc_nar _)
    rw [show v_append (txS (fun k => f k &&& 255) cs k) (f k &&& 255) = nI (k + 1) from e1, show s_append (txS (fun k => f k &&& 255) cs k) (f k &&& 255) = txS (fun k => f k &&& 255) cs (k + 1) from e2, putC_putC] at k1
    refine k_SX1 hc [.ref x, .int (f k &&& 255)] cw_L_150 dL_reads_16 k1 hM hS hl.1 rfl rfl ⟨by omega, by omega⟩ ⟨by omega, by omega⟩ (Nat.le_of_ble_eq_true rfl) (fun H locs hM hS => ?_)
    refine lv_iload_n hx hb dL_reads_19 rfl (lv_at hl 0 rfl) ?_
    refine lv_iconst (v := 1) hx hb dL_reads_20 (by decide) ?_
    refine lv_iadd hx hb dL_reads_21 ?_
    rw [nI_1]
    refine lv_icmp_eq (tgt := 29) hx hb dL_reads_22 (by decide) (fun _ => ?_) (fun h => absurd rfl h)
    refine lv_iinc (v := nI (k + 1)) (lv' := [(2, .int (nI (k + 1))), (0, .ref x), (1, .ref b)]) hx hb dL_reads_29 hl (k := 0) rfl (k_inc1 _) (by decide) rfl (fun ls hl => ?_)
    refine lv_goto (tgt := 2) hx hb dL_reads_32 (by decide) ?_
    refine W.widen (k := c0 + 3 * (k + 1)) (n := s0 + 18 * (k + 1)) (by omega) (by omega) (ih (k + 1) H locs ls (by omega) (by omega) hM hS (lv_sub hl [0, 1, 2] rfl))
end RD
set_option maxHeartbeats 4000000 in
set_option maxRecDepth 100000 in
theorem c_L_readsJ (l : Launch) (hlf : l.stackTraces = false) (g : GC) (M : HM) (x : Nat) (cs : CS) (hW : ClsAt g M x cs) (i9 : Nat) (b : List Int32) (hi9 : lw_by[i9]? = some b) (hbl : b.length ≤ 16) (hbc : ∀ k, chOk (chI b k)) (hz : cs 11 3 1 = 0) (hsg : sgOk cs) (hnx : nxOk cs) : KMv g l yL_reads cL_reads 3 (some .int) 12 51 306 [.ref x, .ref (g.2.2.2.1 i9)] M (fun v M1 => v = .int (v_commands (txS (chI b) cs b.length)) ∧ M1 = putC g M x (s_commands (txS (chI b) cs b.length))) := by
  refine k_methv hlf (by decide) (Nat.le_of_ble_eq_true rfl) fun p e s m below meth c ls hc hr hnx9 hM hS hl => ?_
  have hc : Cx g p l s m [.ref x, .ref (g.2.2.2.1 i9)].toArray meth c cL_reads 3 RL := hc
  have hx := hc.1
  have hb := hc.2.1
  have hl : lv_has ls 3 [(0, .ref x), (1, .ref (g.2.2.2.1 i9))] := hl
  obtain ⟨q1, q2, q3, q4, q5, q6, q7⟩ := txS_f (b := (chI b)) hz b.length (by omega)
  have hsg2 := q7 hsg (fun k _ => hbc k)
  have hnx2 : nxOk (txS (chI b) cs b.length) := by
    unfold nxOk at hnx ⊢
    rw [q5 6 (by omega)]
    exact hnx
  refine lv_iconst (v := 0) hx hb dL_reads_0 (by decide) ?_
  refine lv_istore_n (lv' := [(2, .int (nI 0)), (0, .ref x), (1, .ref (g.2.2.2.1 i9))]) hx hb dL_reads_1 rfl hl (by decide) rfl (fun ls hl => ?_)
  have hM : hR g (putC g M x (txS (chI b) cs 0)) s.heap := hM.eq (putC_same hW).symm
  refine W.widen (k := 0 + 3 * 0) (n := 0 + 18 * 0) (by omega) (by omega) (rd_J (c0 := 0) (s0 := 0) hc hlf (Nat.le_of_ble_eq_true rfl) (Nat.le_of_ble_eq_true rfl) hi9 hbl hbc hz (by show 0 + 3 * b.length ≤ 51; omega) (by show 0 + 18 * b.length ≤ 306; omega) (fun H locs ls hM hS hl => ?_) (b.length + 1) 0 _ _ ls (by omega) (by omega) hM hS hl)
  refine lv_aload_n hx hb dL_reads_35 rfl (lv_at hl 1 rfl) ?_
  have k1 := h_commands l hlf g (putC g M x (txS (chI b) cs b.length)) x (txS (chI b) cs b.length) ClsAt.put hnx2 hsg2
  rw [putC_putC] at k1
  refine k_SX1 hc [.ref x] cw_L_155 dL_reads_36 k1 hM hS hl.1 rfl rfl ⟨Nat.le_of_ble_eq_true rfl, Nat.le_of_ble_eq_true rfl⟩ ⟨by show 0 + 3 * b.length + 3 ≤ 51; omega, by show 0 + 18 * b.length + 18 ≤ 306; omega⟩ (Nat.le_of_ble_eq_true rfl) (fun H locs hM hS => ?_)
  exact k_iretv hc hr dL_reads_39 hM hS (by show 0 + 3 * b.length + 3 ≤ 51; omega) (by show 0 + 18 * b.length + 18 ≤ 306; omega) ⟨rfl, rfl⟩
set_option maxHeartbeats 4000000 in
set_option maxRecDepth 100000 in
theorem c_L_readsS (l : Launch) (hlf : l.stackTraces = false) (g : GC) (M : HM) (x : Nat) (cs : CS)  (M0 : HM) (b n : Nat) (hW0 : ClsAt g M0 x cs) (hB : StW g M0 b n M) (hbl : n ≤ 16) (hz : cs 11 3 1 = 0) (hsg : sgOk cs) (hnx : nxOk cs) : KMv g l yL_reads cL_reads 3 (some .int) 12 51 306 [.ref x, .ref b] M (fun v M1 => ∃ f : Nat → Int32, v = .int (v_commands (txS (fun k => f k &&& 255) cs n)) ∧ M1 = putC g M x (s_commands (txS (fun k => f k &&& 255) cs n))) := by
  obtain ⟨x9, h1, h2, f, h0, ⟨z1, z2⟩, hb9, hx9⟩ := hB
  have hW : ClsAt g M x cs := fun j hj => h0 _ _ (hW0 j hj)
  have hb9 : ∀ c9, putC g M x c9 b = some (.inr (0, [.ref x9, .int 0, h1, h2])) := fun c9 => (putC_none hW0 z1).trans hb9
  have hx9 : ∀ c9, putC g M x c9 x9 = some (.inl (gD g, n, .inl f)) := fun c9 => (putC_none hW0 z2).trans hx9
  refine k_methv hlf (by decide) (Nat.le_of_ble_eq_true rfl) fun p e s m below meth c ls hc hr hnx9 hM hS hl => ?_
  have hc : Cx g p l s m [.ref x, .ref b].toArray meth c cL_reads 3 RL := hc
  have hx := hc.1
  have hb := hc.2.1
  have hl : lv_has ls 3 [(0, .ref x), (1, .ref b)] := hl
  obtain ⟨q1, q2, q3, q4, q5, q6, q7⟩ := txS_f (b := (fun k => f k &&& 255)) hz n (by omega)
  have hsg2 := q7 hsg (fun k _ => (fun k => sc_nar _) k)
  have hnx2 : nxOk (txS (fun k => f k &&& 255) cs n) := by
    unfold nxOk at hnx ⊢
    rw [q5 6 (by omega)]
    exact hnx
  refine lv_iconst (v := 0) hx hb dL_reads_0 (by decide) ?_
  refine lv_istore_n (lv' := [(2, .int (nI 0)), (0, .ref x), (1, .ref b)]) hx hb dL_reads_1 rfl hl (by decide) rfl (fun ls hl => ?_)
  have hM : hR g (putC g M x (txS (fun k => f k &&& 255) cs 0)) s.heap := hM.eq (putC_same hW).symm
  refine W.widen (k := 0 + 3 * 0) (n := 0 + 18 * 0) (by omega) (by omega) (rd_S (c0 := 0) (s0 := 0) hc hlf (Nat.le_of_ble_eq_true rfl) (Nat.le_of_ble_eq_true rfl) hb9 hx9 hbl hz (by show 0 + 3 * n ≤ 51; omega) (by show 0 + 18 * n ≤ 306; omega) (fun H locs ls hM hS hl => ?_) (n + 1) 0 _ _ ls (by omega) (by omega) hM hS hl)
  refine lv_aload_n hx hb dL_reads_35 rfl (lv_at hl 1 rfl) ?_
  have k1 := h_commands l hlf g (putC g M x (txS (fun k => f k &&& 255) cs n)) x (txS (fun k => f k &&& 255) cs n) ClsAt.put hnx2 hsg2
  rw [putC_putC] at k1
  refine k_SX1 hc [.ref x] cw_L_155 dL_reads_36 k1 hM hS hl.1 rfl rfl ⟨Nat.le_of_ble_eq_true rfl, Nat.le_of_ble_eq_true rfl⟩ ⟨by show 0 + 3 * n + 3 ≤ 51; omega, by show 0 + 18 * n + 18 ≤ 306; omega⟩ (Nat.le_of_ble_eq_true rfl) (fun H locs hM hS => ?_)
  exact k_iretv hc hr dL_reads_39 hM hS (by show 0 + 3 * n + 3 ≤ 51; omega) (by show 0 + 18 * n + 18 ≤ 306; omega) ⟨f, rfl, rfl⟩
