/-! the law's second half: any object that makes has made -/
section OR
variable {p : Program} {l : Launch} {e : Env} {R : Room} {s : State} {m : MethodId} {args : Array Value} {below : List Frame} {meth : Method} {c : Code} {H : Heap} {locs : List Loc} {cells slots : Nat} {Q : State → Prop}
variable {ls : Array Slot} {rest : List Value} {g : GC} {M N : HM} {x : Nat}
theorem k_newZ {cc : ByteArray} {nL pc : Nat} {own : String} (hc : Cx g p l s m args meth c cc nL own) {C : String} {T : u_T} {N ci index : Nat} (hin : ∀ w ∈ u_ws C T N, w ∈ lw_all) (ty : Nat → FieldType) (hty : ∀ k, k < N → parseFieldDescriptor (T k).2.2.1 = some (ty k)) (hci : vwCl[ci]? = some (C, T, N)) (hcl : Cond.classLink own index C ∈ lw_all) (hinst : Cond.instantiable C N ∈ lw_all) (hini : Cond.initialized C ∈ lw_all) {fs : List Value} (hfs : ∀ j, j < N → defaultValue (ty j) = vp_V fs j) (hdg : decode cc pc = .ok (.new index, 3))
    (hM : hR g M H) (hS : va_S (gA g) s.heap H locs) (hcells : cells + 1 ≤ R.cells) (hslots : slots + N ≤ R.slots)
    (kk : ∀ (q : Nat) (H1 : Heap), H1.size = q + 1 → hR g (upM M q (.inr (ci, fs))) H1 → va_S (gA g) s.heap H1 locs → W p l e R s m args below meth c H1 locs (cells + 1) (slots + N) Q (F0 m (pc + 3) ls (.ref q :: rest))) : W p l e R s m args below meth c H locs cells slots Q (F0 m pc ls rest) := by
  obtain ⟨hexec, hb, hml, hown, hts, hE, hlk, hst0⟩ := hc
  have hKn := hE.1.1 ci _ hci
  refine W.newcK hexec hb hown (hts _ hcl) (hts _ hinst) (hts _ hini) rfl hdg hcells hslots hKn.2.1 rfl fun H1 kC hkC e1 z1 o1 => ?_
  exact kk H.size H1 z1 (hM.push rfl (Nat.le_trans hE.2.1 hS.1) ⟨_, hci, (u_born ty hts (fun w h => hin w h) hKn hkC e1 hty).to hfs⟩ o1) ⟨Nat.le_trans hS.1 (by omega), fun x h1 h2 => (o1 x (by have := hS.1; omega)).trans (hS.2.1 x h1 h2), hS.2.2⟩
theorem putC_up {x : Nat} {c9 : CS} {E : va_E} : putC g (upM M x E) x c9 = putC g M x c9 := by
  funext q
  unfold putC
  by_cases h : x ≤ q ∧ q < x + 196
  · rw [if_pos h, if_pos h]
  · rw [if_neg h, if_neg h, upM_ne (by omega)]
theorem putC_w {x w : Nat} {c9 : CS} {E : va_E} (h : ¬ (x ≤ w ∧ w < x + 196)) : upM (putC g M x c9) w E = putC g (upM M w E) x c9 := by
  funext q
  unfold putC upM
  by_cases hq : q = w
  · subst hq
    rw [if_pos rfl, if_neg h, if_pos rfl]
  · rw [if_neg hq, if_neg hq]
set_option maxRecDepth 100000 in
/-- new MirageSurvey() -/
theorem k_mkObj (hc : Cx g p l s m args meth c cL_law 11 RL) (hlf : l.stackTraces = false) {pc : Nat} (d0 : decode cL_law pc = .ok (.new 8, 3)) (d3 : decode cL_law (pc + 3) = .ok (.dup, 1)) (d4 : decode cL_law (pc + 3 + 1) = .ok (.invokespecial 293, 3)) (hS : va_S (gA g) s.heap H locs) (hsz : ls.size = 11)
    (hfr : 20 ≤ R.frames) (hlo : 1300 ≤ R.locals) (hce : cells + 196 ≤ R.cells) (hse : slots + 9428 ≤ R.slots)
    (kk : ∀ (x : Nat) (H1 : Heap) (locs1 : List Loc), hR g (putC g (fun _ => none) x cs0) H1 → va_S (gA g) s.heap H1 locs1 → W p l e R s m args below meth c H1 locs1 (cells + 196) (slots + 9428) Q (F0 m (pc + 3 + 1 + 3) ls [.ref x])) : W p l e R s m args below meth c H locs cells slots Q (F0 m pc ls []) := by
  have hM : hR g (fun _ => none) H := fun q e h => by cases h
  refine k_newZ hc (T := TX5) (ci := 7) in_X5 tyX5 tyX5_ok rfl ql_L_8 qm_X5 qn_X5 (fs := [.null, .null, .null, .null, .null, .null, .int 0, .int 0, .int 0, .int 0, .int 0, .int 0]) (fun j hj => ?_) d0 hM hS (by omega) (by omega) (fun x H hz hM hS => ?_)
  · match j, hj with
    | 0, _ => rfl
    | 1, _ => rfl
    | 2, _ => rfl
    | 3, _ => rfl
    | 4, _ => rfl
    | 5, _ => rfl
    | 6, _ => rfl
    | 7, _ => rfl
    | 8, _ => rfl
    | 9, _ => rfl
    | 10, _ => rfl
    | 11, _ => rfl
  refine lv_dup hc.1 hc.2.1 d3 rfl ?_
  refine k_goI hc (KPn.blind) cw_L_293 d4 (c_X5_init l hlf g _ x upM_at) (hc.preN hM hS hz) (As := []) (rest := [.ref x]) hS rfl hsz ⟨by omega, by omega⟩ ⟨by omega, by omega⟩ (Nat.le_of_ble_eq_true rfl) (fun v M1 H2 locs2 hres hM2 hS2 => ?_) (fun E M1 H2 locs2 q9 ce hres => by cases hres)
  cases hres
  rw [putC_up] at hM2
  exact W.widen (by omega) (by omega) (kk x H2 locs2 hM2 hS2)

set_option maxHeartbeats 4000000 in
theorem or_sights (hc : Cx g p l s m args meth c cL_law 11 RL) (hlf : l.stackTraces = false) (hfr : 20 ≤ R.frames) (hlo : 1300 ≤ R.locals) {t c0 s0 : Nat} (hce : c0 + 24 ≤ R.cells) (hse : s0 + 144 ≤ R.slots)
    (kk : ∀ (c9 : CS) (H : Heap) (locs : List Loc) (ls : Array Slot), Mk 6 3 2 5 t c9 → hR g (putC g M x c9) H → va_S (gA g) s.heap H locs → lv_has ls 11 [(2, .ref x), (0, .ref (gSb g))] → W p l e R s m args below meth c H locs (c0 + 4 * 6) (s0 + 24 * 6) Q (F0 m 904 ls [])) :
    ∀ (D k : Nat) (c9 : CS) (H : Heap) (locs : List Loc) (ls : Array Slot), 6 - k < D → k ≤ 6 → Mk 6 3 2 5 t c9 → hR g (putC g M x c9) H → va_S (gA g) s.heap H locs → lv_has ls 11 [(3, .int (nI k)), (2, .ref x), (0, .ref (gSb g))] → W p l e R s m args below meth c H locs (c0 + 4 * k) (s0 + 24 * k) Q (F0 m 840 ls []) := by
  have hx := hc.1
  have hb := hc.2.1
  intro D
  induction D with
  | zero => intro k c9 H locs ls hD; exact absurd hD (Nat.not_lt_zero _)
  | succ D ih =>
    intro k c9 H locs ls hD hk hm hM hS hl
    refine lv_iload_n hx hb dL_law_840 rfl (lv_at hl 0 rfl) ?_
    refine lv_bipush (v := 6) hx hb dL_law_841 (by decide) ?_
    refine lv_icmp_ge (tgt := 904) hx hb dL_law_843 (by decide) (fun c_t => ?_) (fun c_t => ?_)
    · have hk9 : 6 ≤ k := (nI_leI (a := 6) (b := k) (by omega) (by omega)).mp c_t
      obtain rfl : k = 6 := by omega
      exact kk c9 H locs ls hm hM hS (lv_sub hl [1, 2] rfl)
    have hk9 : k < 6 := by
      rcases Nat.lt_or_ge k 6 with q | q
      · exact q
      · exact absurd (nI_le (a := 6) q (by omega)) c_t
    refine lv_aload_n hx hb dL_law_846 rfl (lv_at hl 1 rfl) ?_
    refine lv_iload_n hx hb dL_law_847 rfl (lv_at hl 0 rfl) ?_
    refine lv_aload_n hx hb dL_law_848 rfl (lv_at hl 2 rfl) ?_
    refine lv_bipush (v := 24) hx hb dL_law_849 (by decide) ?_
    refine lv_iload_n hx hb dL_law_851 rfl (lv_at hl 0 rfl) ?_
    refine lv_iadd hx hb dL_law_852 ?_
    rw [show (24 : Int32) + nI k = nI (24 + k) from nI_add 24 k]
    refine k_S1 hc [.ref (gSb g), .int (nI (24 + k))] cw_L_165 dL_law_853 (c_L_at l hlf g _ (24 + k) (by omega)) hM hS hl.1 rfl rfl ⟨by omega, by omega⟩ ⟨by omega, by omega⟩ (Nat.le_of_ble_eq_true rfl) (fun H locs hM hS => ?_)
    refine lv_iconst (v := 3) hx hb dL_law_856 (by decide) ?_
    refine k_S1 hc [.int (atV g (24 + k)), .int 3] cw_L_169 dL_law_857 (c_L_some l hlf g _ (atV g (24 + k)) 3 (by decide)) hM hS hl.1 rfl rfl ⟨by omega, by omega⟩ ⟨by omega, by omega⟩ (Nat.le_of_ble_eq_true rfl) (fun H locs hM hS => ?_)
    obtain ⟨r1, hr1, er1⟩ := smF_b (atV g (24 + k)) (N := 3) (by omega) (by omega)
    have er1 : smF (atV g (24 + k)) 3 = nI r1 := er1
    rw [er1]
    refine lv_aload_n hx hb dL_law_860 rfl (lv_at hl 2 rfl) ?_
    refine lv_bipush (v := 24) hx hb dL_law_861 (by decide) ?_
    refine lv_iload_n hx hb dL_law_863 rfl (lv_at hl 0 rfl) ?_
    refine lv_iadd hx hb dL_law_864 ?_
    rw [show (24 : Int32) + nI k = nI (24 + k) from nI_add 24 k]
    refine k_S1 hc [.ref (gSb g), .int (nI (24 + k))] cw_L_165 dL_law_865 (c_L_at l hlf g _ (24 + k) (by omega)) hM hS hl.1 rfl rfl ⟨by omega, by omega⟩ ⟨by omega, by omega⟩ (Nat.le_of_ble_eq_true rfl) (fun H locs hM hS => ?_)
    refine lv_iconst (v := 2) hx hb dL_law_868 (by decide) ?_
    refine lv_ishr hx hb dL_law_869 ?_
    refine lv_iconst (v := 2) hx hb dL_law_870 (by decide) ?_
    refine k_S1 hc [.int (atV g (24 + k) >>> ((2 : Int32) &&& 31)), .int 2] cw_L_169 dL_law_871 (c_L_some l hlf g _ _ 2 (by decide)) hM hS hl.1 rfl rfl ⟨by omega, by omega⟩ ⟨by omega, by omega⟩ (Nat.le_of_ble_eq_true rfl) (fun H locs hM hS => ?_)
    obtain ⟨r2, hr2, er2⟩ := smF_b (atV g (24 + k) >>> ((2 : Int32) &&& 31)) (N := 2) (by omega) (by omega)
    have er2 : smF (atV g (24 + k) >>> ((2 : Int32) &&& 31)) 2 = nI r2 := er2
    rw [er2]
    have k1 := h_sight l hlf g (putC g M x c9) x c9 (nI k) (nI r1) (nI r2) ClsAt.put hm.ok
    rw [putC_putC] at k1
    rcases mk_sight hm (i := k) (j := r1) (k := r2) hk9 hr1 hr2 with ⟨ev, e10, hm2⟩ | ⟨v, hv, ev, hm2⟩
    · rw [ev] at k1
      refine k_SX1 hc [.ref x, .int (nI k), .int (nI r1), .int (nI r2)] cw_L_234 dL_law_874 k1 hM hS hl.1 rfl rfl ⟨by omega, by omega⟩ ⟨by omega, by omega⟩ (Nat.le_of_ble_eq_true rfl) (fun H locs hM hS => ?_)
      refine lv_istore (lv' := [(4, .int (-1001)), (3, .int (nI k)), (2, .ref x), (0, .ref (gSb g))]) hx hb dL_law_877 hl (by decide) rfl (fun ls hl => ?_)
      refine lv_iload hx hb dL_law_879 (lv_at hl 0 rfl) ?_
      refine lv_sipush (v := -1001) hx hb dL_law_881 (by decide) ?_
      refine lv_icmp_ne (tgt := 898) hx hb dL_law_884 (by decide) (fun h => absurd rfl h) (fun _ => ?_)
      refine lv_aload_n hx hb dL_law_887 rfl (lv_at hl 2 rfl) ?_
      refine lv_iconst (v := 0) hx hb dL_law_888 (by decide) ?_
      have k2 := h_reason l hlf g (putC g M x (s_sight c9 (nI k) (nI r1) (nI r2))) x (s_sight c9 (nI k) (nI r1) (nI r2)) 0 ClsAt.put
      rw [show v_reason (s_sight c9 (nI k) (nI r1) (nI r2)) 0 = 5 from by unfold v_reason; rw [if_pos (by decide), if_pos (by rw [e10]; decide)]; exact e10] at k2
      refine k_SX1 hc [.ref x, .int 0] cw_L_158 dL_law_889 k2 hM hS hl.1 rfl rfl ⟨by omega, by omega⟩ ⟨by omega, by omega⟩ (Nat.le_of_ble_eq_true rfl) (fun H locs hM hS => ?_)
      refine lv_iconst (v := 5) hx hb dL_law_892 (by decide) ?_
      refine lv_icmp_eq (tgt := 898) hx hb dL_law_893 (by decide) (fun _ => ?_) (fun h => absurd rfl h)
      refine lv_iinc (v := nI (k + 1)) (lv' := [(3, .int (nI (k + 1))), (4, .int (-1001)), (2, .ref x), (0, .ref (gSb g))]) hx hb dL_law_898 hl (k := 1) rfl (k_inc1 _) (by decide) rfl (fun ls hl => ?_)
      refine lv_goto (tgt := 840) hx hb dL_law_901 (by decide) ?_
      exact W.widen (k := c0 + 4 * (k + 1)) (n := s0 + 24 * (k + 1)) (by omega) (by omega) (ih (k + 1) _ H locs ls (by omega) (by omega) hm2 hM hS (lv_sub hl [0, 2, 3] rfl))
    · rw [ev] at k1
      refine k_SX1 hc [.ref x, .int (nI k), .int (nI r1), .int (nI r2)] cw_L_234 dL_law_874 k1 hM hS hl.1 rfl rfl ⟨by omega, by omega⟩ ⟨by omega, by omega⟩ (Nat.le_of_ble_eq_true rfl) (fun H locs hM hS => ?_)
      refine lv_istore (lv' := [(4, .int (nI v)), (3, .int (nI k)), (2, .ref x), (0, .ref (gSb g))]) hx hb dL_law_877 hl (by decide) rfl (fun ls hl => ?_)
      refine lv_iload hx hb dL_law_879 (lv_at hl 0 rfl) ?_
      refine lv_sipush (v := -1001) hx hb dL_law_881 (by decide) ?_
      refine lv_icmp_ne (tgt := 898) hx hb dL_law_884 (by decide) (fun _ => ?_) (fun h => absurd (show nI v < 0 by rw [h]; decide) (nI_pos hv))
      refine lv_iinc (v := nI (k + 1)) (lv' := [(3, .int (nI (k + 1))), (4, .int (nI v)), (2, .ref x), (0, .ref (gSb g))]) hx hb dL_law_898 hl (k := 1) rfl (k_inc1 _) (by decide) rfl (fun ls hl => ?_)
      refine lv_goto (tgt := 840) hx hb dL_law_901 (by decide) ?_
      exact W.widen (k := c0 + 4 * (k + 1)) (n := s0 + 24 * (k + 1)) (by omega) (by omega) (ih (k + 1) _ H locs ls (by omega) (by omega) hm2 hM hS (lv_sub hl [0, 2, 3] rfl))
theorem lc_eq (a : Int64) : (if a > a then (1 : Int32) else if a = a then 0 else -1) = 0 := by
  rw [if_neg Int64.lt_irrefl, if_pos rfl]
set_option maxHeartbeats 4000000 in
theorem or_changes (hc : Cx g p l s m args meth c cL_law 11 RL) (hlf : l.stackTraces = false) (hfr : 20 ≤ R.frames) (hlo : 1300 ≤ R.locals) {t c0 s0 w : Nat} {F0f : FL} {hr : Int32} {sum : Int64} (hw : ¬ (x ≤ w ∧ w < x + 196)) (ht : t + 13 * (48 * 61) < 2 ^ 30) (hce : c0 + 4100 * 12 ≤ R.cells) (hse : s0 + 24600 * 12 ≤ R.slots)
    (kk : ∀ (done : Nat) (f : Nat → Int64) (c9 : CS) (H : Heap) (locs : List Loc) (ls : Array Slot), done ≤ 12 → Rng F0f (t + 12 * (48 * 61)) done f c9 → hR g (putC g (upM M w (.inl (gJ g, 13, .inr (.inl f)))) x c9) H → va_S (gA g) s.heap H locs → lv_has ls 11 [(7, .int (nI done)), (6, .ref w), (5, .int hr), (3, .long sum), (2, .ref x), (0, .ref (gSb g))] → W p l e R s m args below meth c H locs (c0 + 4100 * 12) (s0 + 24600 * 12) Q (F0 m 1033 ls [])) :
    ∀ (D i done : Nat) (f : Nat → Int64) (c9 : CS) (H : Heap) (locs : List Loc) (ls : Array Slot), 12 - i < D → i ≤ 12 → done ≤ i → Rng F0f (t + i * (48 * 61)) done f c9 → hR g (putC g (upM M w (.inl (gJ g, 13, .inr (.inl f)))) x c9) H → va_S (gA g) s.heap H locs → lv_has ls 11 [(8, .int (nI i)), (7, .int (nI done)), (6, .ref w), (5, .int hr), (3, .long sum), (2, .ref x), (0, .ref (gSb g))] → W p l e R s m args below meth c H locs (c0 + 4100 * i) (s0 + 24600 * i) Q (F0 m 966 ls []) := by
  have hx := hc.1
  have hb := hc.2.1
  intro D
  induction D with
  | zero => intro i done f c9 H locs ls hD; exact absurd hD (Nat.not_lt_zero _)
  | succ D ih =>
    intro i done f c9 H locs ls hD hi hdn hG hM hS hl
    refine lv_iload hx hb dL_law_966 (lv_at hl 0 rfl) ?_
    refine lv_bipush (v := 12) hx hb dL_law_968 (by decide) ?_
    refine lv_icmp_ge (tgt := 1033) hx hb dL_law_970 (by decide) (fun c_t => ?_) (fun c_t => ?_)
    · have hk9 : 12 ≤ i := (nI_leI (a := 12) (b := i) (by omega) (by omega)).mp c_t
      obtain rfl : i = 12 := by omega
      exact kk done f c9 H locs ls (by omega) hG hM hS (lv_sub hl [1, 2, 3, 4, 5, 6] rfl)
    have hk9 : i < 12 := by
      rcases Nat.lt_or_ge i 12 with q | q
      · exact q
      · exact absurd (nI_le (a := 12) q (by omega)) c_t
    have hG9 := hG
    obtain ⟨g1, g2, g3, g4, nx, sz, gR, gs, gh⟩ := hG
    obtain ⟨V, c1, kA, aA, rA⟩ := asks_any l hlf g (putC g (upM M w (.inl (gJ g, 13, .inr (.inl f)))) x c9) x c9 ClsAt.put g1 g2
    rw [putC_putC] at kA
    refine lv_aload_n hx hb dL_law_973 rfl (lv_at hl 5 rfl) ?_
    refine k_S1 hc [.ref x] cw_L_278 dL_law_974 kA hM hS hl.1 rfl rfl ⟨by omega, by omega⟩ ⟨by omega, by omega⟩ (Nat.le_of_ble_eq_true rfl) (fun H locs hM hS => ?_)
    refine lv_lstore (lv' := [(9, .long V), (8, .int (nI i)), (7, .int (nI done)), (6, .ref w), (5, .int hr), (3, .long sum), (2, .ref x), (0, .ref (gSb g))]) hx hb dL_law_977 hl (by decide) (by rfl) (fun ls hl => ?_)
    have hG1 := hG9.rfd rA
    obtain ⟨g1, g2, g3, g4, nx, sz, gR, gs, gh⟩ := hG1
    have aA1 : aQ (c1 0) V := by rw [rA.1]; exact aA
    refine lv_aload_n hx hb dL_law_979 rfl (lv_at hl 6 rfl) ?_
    refine lv_aload_n hx hb dL_law_980 rfl (lv_at hl 7 rfl) ?_
    refine lv_bipush (v := 20) hx hb dL_law_981 (by decide) ?_
    refine lv_iload hx hb dL_law_983 (lv_at hl 1 rfl) ?_
    refine lv_iadd hx hb dL_law_985 ?_
    rw [show (20 : Int32) + nI i = nI (20 + i) from nI_add 20 i]
    refine k_S1 hc [.ref (gSb g), .int (nI (20 + i))] cw_L_165 dL_law_986 (c_L_at l hlf g _ (20 + i) (by omega)) hM hS hl.1 rfl rfl ⟨by omega, by omega⟩ ⟨by omega, by omega⟩ (Nat.le_of_ble_eq_true rfl) (fun H locs hM hS => ?_)
    refine lv_iload hx hb dL_law_989 (lv_at hl 1 rfl) ?_
    refine lv_sipush (v := 977) hx hb dL_law_991 (by decide) ?_
    refine lv_imul hx hb dL_law_994 ?_
    refine lv_ixor hx hb dL_law_995 ?_
    refine k_S1v hc [.ref x, .int (atV g (20 + i) ^^^ nI i * 977)] cw_L_309 dL_law_996 (c_L_changes l hlf g (putC g (upM M w (.inl (gJ g, 13, .inr (.inl f)))) x c1) x c1 (atV g (20 + i) ^^^ nI i * 977) (n := t + i * (48 * 61)) (nx := nx) (sz := sz) ClsAt.put g1 (by omega) g2 gR) hM hS hl.1 rfl rfl ⟨by omega, by omega⟩ ⟨by omega, by omega⟩ (Nat.le_of_ble_eq_true rfl) (fun v9 M9 H locs hs hM hS => ?_)
    obtain ⟨c2, e2, hcs⟩ := hs
    subst e2
    rw [putC_putC] at hM
    rcases hcs with ⟨rfl, fl, hs, hg⟩ | ⟨rfl, hrf⟩
    · refine lv_if_eq (tgt := 1015) hx hb dL_law_999 (by decide) (fun h => absurd h (by decide)) (fun _ => ?_)
      have hG2 := Rng.suc (f := f) (V := V) g1 g3 g4 gR gs gh hs aA1 hg
      refine lv_aload hx hb dL_law_1002 (lv_at hl 3 rfl) ?_
      refine lv_iload hx hb dL_law_1004 (lv_at hl 2 rfl) ?_
      refine lv_iinc (v := nI (done + 1)) (lv' := [(7, .int (nI (done + 1))), (9, .long V), (8, .int (nI i)), (6, .ref w), (5, .int hr), (3, .long sum), (2, .ref x), (0, .ref (gSb g))]) hx hb dL_law_1006 hl (k := 2) rfl (k_inc1 _) (by decide) rfl (fun ls hl => ?_)
      refine lv_lload hx hb dL_law_1009 (lv_at hl 1 rfl) ?_
      refine k_last hc hM hS (a := w) (n := 13) (f := f) (by unfold putC; rw [if_neg hw]; exact upM_at) (vp_in_nI (show done < 13 by omega) (by omega)) dL_law_1011 (fun H locs hM hS => ?_)
      rw [nI_clamp (by omega), putC_w hw, upM_upM] at hM
      refine lv_goto (tgt := 1027) hx hb dL_law_1012 (by decide) ?_
      refine lv_iinc (v := nI (i + 1)) (lv' := [(8, .int (nI (i + 1))), (7, .int (nI (done + 1))), (9, .long V), (6, .ref w), (5, .int hr), (3, .long sum), (2, .ref x), (0, .ref (gSb g))]) hx hb dL_law_1027 hl (k := 2) rfl (k_inc1 _) (by decide) rfl (fun ls hl => ?_)
      refine lv_goto (tgt := 966) hx hb dL_law_1030 (by decide) ?_
      refine W.widen (k := c0 + 4100 * (i + 1)) (n := s0 + 24600 * (i + 1)) (by omega) (by omega) (ih (i + 1) (done + 1) _ c2 H locs ls (by omega) (by omega) (by omega) ?_ hM hS (lv_sub hl [0, 1, 3, 4, 5, 6, 7] rfl))
      rw [show t + (i + 1) * (48 * 61) = t + i * (48 * 61) + 48 * 61 by omega]
      exact hG2
    · refine lv_if_eq (tgt := 1015) hx hb dL_law_999 (by decide) (fun _ => ?_) (fun h => absurd rfl h)
      have hG1 : Rng F0f (t + i * (48 * 61)) done f c1 := ⟨g1, g2, g3, g4, nx, sz, gR, gs, gh⟩
      have hG2 := hG1.rfd hrf
      have hG3 := hG2
      obtain ⟨g1, g2, g3, g4, nx, sz, gR, gs, gh⟩ := hG2
      obtain ⟨V2, c3, kB, aB, rB⟩ := asks_any l hlf g (putC g (upM M w (.inl (gJ g, 13, .inr (.inl f)))) x c2) x c2 ClsAt.put g1 g2
      rw [putC_putC] at kB
      obtain rfl : V2 = V := aB.uniq (by rw [hrf.1]; exact aA1)
      refine lv_aload_n hx hb dL_law_1015 rfl (lv_at hl 6 rfl) ?_
      refine k_S1 hc [.ref x] cw_L_278 dL_law_1016 kB hM hS hl.1 rfl rfl ⟨by omega, by omega⟩ ⟨by omega, by omega⟩ (Nat.le_of_ble_eq_true rfl) (fun H locs hM hS => ?_)
      refine lv_lload hx hb dL_law_1019 (lv_at hl 0 rfl) ?_
      refine lv_lcmp hx hb dL_law_1021 ?_
      rw [lc_eq]
      refine lv_if_eq (tgt := 1027) hx hb dL_law_1022 (by decide) (fun _ => ?_) (fun h => absurd rfl h)
      refine lv_iinc (v := nI (i + 1)) (lv' := [(8, .int (nI (i + 1))), (9, .long V2), (7, .int (nI done)), (6, .ref w), (5, .int hr), (3, .long sum), (2, .ref x), (0, .ref (gSb g))]) hx hb dL_law_1027 hl (k := 1) rfl (k_inc1 _) (by decide) rfl (fun ls hl => ?_)
      refine lv_goto (tgt := 966) hx hb dL_law_1030 (by decide) ?_
      have hG4 := hG3.rfd rB
      refine W.widen (k := c0 + 4100 * (i + 1)) (n := s0 + 24600 * (i + 1)) (by omega) (by omega) (ih (i + 1) done f c3 H locs ls (by omega) (by omega) (by omega) ?_ hM hS (lv_sub hl [0, 2, 3, 4, 5, 6, 7] rfl))
      obtain ⟨h1, h2⟩ := hG4
      exact ⟨h1.mono (by omega), h2⟩
end OR
