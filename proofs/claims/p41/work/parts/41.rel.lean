/-! METHODS WHOSE ANSWER IS TOLD BY A RELATION; what a heap holds may be forgotten -/
theorem hR.sub {g : GC} {M M' : HM} {H : Heap} (h : hR g M H) (hs : ∀ q e, M' q = some e → M q = some e) : hR g M' H := fun q e hq => h q e (hs q e hq)
def KQv (g : GC) (S : Value → HM → Prop) : Array Value → State → Outcome → State → Prop := fun _ st o t => ∃ (v : Value) (M : HM), S v M ∧ o = .returned (some v) ∧ hR g M t.heap ∧ va_F (gA g) st t
def KXn : String → State → State → Prop := fun _ _ _ => False
def KMv (g : GC) (l : Launch) (y : MethodName) (b : ByteArray) (nL : Nat) (r : Option FieldType) (d mc ms : Nat) (av : List Value) (M : HM) (S : Value → HM → Prop) : Prop :=
  vx_Met l y (Cond.code y b nL r :: lw_all) (rmOf d mc ms) (KP g M av) (KQv g S) KXn mc ms (gA g)
theorem k_methv {g : GC} {l : Launch} (hlf : l.stackTraces = false) {y : MethodName} {b : ByteArray} {nL : Nat} {r : Option FieldType} {d mc ms : Nat} {av : List Value} {M : HM} {S : Value → HM → Prop} (hy : plainName y.cls = true) (hn : (lg_sl av).length ≤ nL)
    (body : ∀ (p : Program) (e : Env) (s : State) (m : MethodId) (below : List Frame) (meth : Method) (c : Code) (ls : Array Slot), Cx g p l s m av.toArray meth c b nL y.cls → meth.sig.returnType = r → (∀ x ∈ c.exceptionTable.toList, False) → hR g M s.heap → va_S (gA g) s.heap s.heap [] → lv_has ls nL (lv_args 0 av) →
      W p l e (rmOf d mc ms) s m av.toArray below meth c s.heap [] 0 0 (vx_MQ below (KQv g S) KXn av.toArray s mc ms (gA g)) (F0 m 0 ls [])) : KMv g l y b nL r d mc ms av M S := by
  refine vx_ofW hy rfl ?_
  intro p e s m args below meth c s₁ B hml hnx hv
  obtain ⟨rfl, hM, hE⟩ := hv
  have hts0 := atoms_spec (ws := Cond.code y b nL r :: lw_all) B.pre
  have hl := lv_entry av (n := nL) hn
  rw [lg_entry_eq]
  exact body p e s m below meth c _ ⟨B.exec, B.bytes, hml, findClass_of_methodNamed B.named, fun w hw => hts0 w (List.mem_cons_of_mem _ hw), hE, B.notSynchronized, hlf⟩ B.returns hnx hM va_S.rf hl
section KV
variable {p : Program} {l : Launch} {e : Env} {R : Room} {s : State} {m : MethodId} {args : Array Value} {below : List Frame} {meth : Method} {c : Code} {H : Heap} {locs : List Loc} {cells slots : Nat} {Q : State → Prop}
variable {cc : ByteArray} {pc nL : Nat} {ls : Array Slot} {rest st0 : List Value} {g : GC} {M M1 : HM} {own : String} {mc ms : Nat} {S : Value → HM → Prop}
theorem k_S1v (hc : Cx g p l s m args meth c cc nL own) {index n d mc ms nLc : Nat} {y : MethodName} {bc : ByteArray} {r : Option FieldType} (As : List Value) (hw : CwS own index n y bc nLc r) (hdg : decode cc pc = .ok (.invokestatic index, 3))
    (hK : KMv g l y bc nLc r d mc ms As M S) (hM : hR g M H) (hS : va_S (gA g) s.heap H locs) (hl : ls.size = nL) (hn : As.length = n) (hst : As.reverse ++ rest = st0) (hroom : d + 1 ≤ R.frames ∧ 8 + (nLc + 11) + 60 * d ≤ R.locals) (hf : cells + mc ≤ R.cells ∧ slots + ms ≤ R.slots) (hW : (rest.map fun v => v.category).sum ≤ 8)
    (kk : ∀ (v : Value) (M1 : HM) (H1 : Heap) (locs1 : List Loc), S v M1 → hR g M1 H1 → va_S (gA g) s.heap H1 locs1 → W p l e R s m args below meth c H1 locs1 (cells + mc) (slots + ms) Q (F0 m (pc + 3) ls (v :: rest))) : W p l e R s m args below meth c H locs cells slots Q (F0 m pc ls st0) := by
  subst hst
  obtain ⟨w1, w2, w4, w5, w7, w8, w9⟩ := hw
  have hr := vx_runS (p := p) (e := e) (below := below) (meth := meth) (R := R) (cells := cells) (slots := slots) (H := H) (locs := locs) (As := As) (rest := rest) (g := F0 m pc ls (As.reverse ++ rest)) ⟨hc.1, hc.2.1, hc.2.2.1, hc.2.2.2.1, hc.2.2.2.2.1⟩ hK (va_cwS n hc.2.2.2.2.1 (lw_gS w1 w2 w4 w5) rfl rfl rfl ⟨w7, w8, w9⟩ hroom) ⟨KP.blind, hc.pre hM hS⟩ rfl hn (hl.trans rfl) rfl (by show 2 * 0 + _ ≤ 8; omega) hdg hf
  intro T hT X
  rcases hr T hT X with ⟨v, st₀, t, T', L, h0, X', hL, e1, e2, ⟨v2, M1, hs, hv, hR1, hF⟩, st⟩ | ⟨q, st₀, t, T', L, E, ce, h0, X', hL, e1, e2, hx, -⟩
  · cases hv
    obtain ⟨-, -, k3⟩ := vx_keep (free := gA g) h0 e1 hS (fun _ _ h => h) (fun _ h => h) hL hF
    obtain ⟨t2, a1, b1⟩ := kk v2 M1 T'.heap (locs ++ L) hs (by rw [e1]; exact hR1) k3 T' rfl X'
    exact ⟨t2, st t2 a1, b1⟩
  · exact hx.elim
theorem k_iretv (hc : Cx g p l s m args meth c cc nL own) (hr : meth.sig.returnType = some .int) (hdg : decode cc pc = .ok (.ireturn, 1)) (hM : hR g M H) (hS : va_S (gA g) s.heap H locs) {v : Int32} (h1 : cells ≤ mc) (h2 : slots ≤ ms) (hres : S (.int v) M) :
    W p l e R s m args below meth c H locs cells slots (vx_MQ below (KQv g S) KXn args s mc ms (gA g)) (F0 m pc ls [.int v]) :=
  vx_ret (W.widen h1 h2 (W.iret hc.1 hc.2.1 hr (fun t ht hW => ⟨_, M, hres, rfl, by rw [ht]; exact hM, hS.F ht⟩) hS.2.2 hdg hc.2.2.2.2.2.2.1))
theorem k_zretv (hc : Cx g p l s m args meth c cc nL own) {ty : FieldType} (hr : meth.sig.returnType = some ty) (hdg : decode cc pc = .ok (.ireturn, 1)) (hM : hR g M H) (hS : va_S (gA g) s.heap H locs) {v : Int32} (hn : narrow ty (.int v) = .int v) (h1 : cells ≤ mc) (h2 : slots ≤ ms) (hres : S (.int v) M) :
    W p l e R s m args below meth c H locs cells slots (vx_MQ below (KQv g S) KXn args s mc ms (gA g)) (F0 m pc ls [.int v]) :=
  vx_ret (W.widen h1 h2 (W.zret hc.1 hc.2.1 hr hn (fun t ht hW => ⟨_, M, hres, rfl, by rw [ht]; exact hM, hS.F ht⟩) hS.2.2 hdg hc.2.2.2.2.2.2.1))
theorem k_lretv (hc : Cx g p l s m args meth c cc nL own) (hr : meth.sig.returnType = some .long) (hdg : decode cc pc = .ok (.lreturn, 1)) (hM : hR g M H) (hS : va_S (gA g) s.heap H locs) {v : Int64} (h1 : cells ≤ mc) (h2 : slots ≤ ms) (hres : S (.long v) M) :
    W p l e R s m args below meth c H locs cells slots (vx_MQ below (KQv g S) KXn args s mc ms (gA g)) (F0 m pc ls [.long v]) :=
  vx_ret (W.widen h1 h2 (W.lret hc.1 hc.2.1 hr (fun t ht hW => ⟨_, M, hres, rfl, by rw [ht]; exact hM, hS.F ht⟩) hS.2.2 hdg hc.2.2.2.2.2.2.1))
theorem k_lret (hc : Cx g p l s m args meth c cc nL own) {res : Rs} (hr : meth.sig.returnType = some .long) (hdg : decode cc pc = .ok (.lreturn, 1)) (hM : hR g M H) (hS : va_S (gA g) s.heap H locs) {v : Int64} (h1 : cells ≤ mc) (h2 : slots ≤ ms) (hres : res = .inl (some (.long v), M)) :
    W p l e R s m args below meth c H locs cells slots (vx_MQ below (KQ g res) (KX g res) args s mc ms (gA g)) (F0 m pc ls [.long v]) :=
  vx_ret (W.widen h1 h2 (W.lret hc.1 hc.2.1 hr (fun t ht hW => ⟨_, M, hres, rfl, by rw [ht]; exact hM, hS.F ht⟩) hS.2.2 hdg hc.2.2.2.2.2.2.1))
/-- the script's int at a place -/
theorem k_sld (hc : Cx g p l s m args meth c cc nL own) (hS : va_S (gA g) s.heap H locs) {k : Nat} (hk : k < gSL g) (hdg : decode cc pc = .ok (.iaload, 1))
    (kk : W p l e R s m args below meth c H locs cells slots Q (F0 m (pc + 1) ls (.int (gSx g k) :: rest))) : W p l e R s m args below meth c H locs cells slots Q (F0 m pc ls (.int (nI k) :: .ref (gSb g) :: rest)) := by
  obtain ⟨-, -, -, -, -, -, -, -, -, -, -, ⟨x1, x2, x3, x4⟩, -⟩ := hc.2.2.2.2.2.1
  refine va_sld hc.1 hc.2.1 x1 x2 x3 hS (vp_in_nI hk (by omega)) hdg ?_
  rw [nI_clamp (by omega)]
  exact kk
theorem k_slen (hc : Cx g p l s m args meth c cc nL own) (hS : va_S (gA g) s.heap H locs) (hdg : decode cc pc = .ok (.arraylength, 1))
    (kk : W p l e R s m args below meth c H locs cells slots Q (F0 m (pc + 1) ls (.int (nI (gSL g)) :: rest))) : W p l e R s m args below meth c H locs cells slots Q (F0 m pc ls (.ref (gSb g) :: rest)) := by
  obtain ⟨-, -, -, -, -, -, -, -, -, -, -, ⟨x1, x2, x3, x4⟩, -⟩ := hc.2.2.2.2.2.1
  exact va_slen hc.1 hc.2.1 x1 x2 x3 hS hdg kk
end KV
/-! at, some, is -/
def atV (g : GC) (k : Nat) : Int32 := if k < gSL g then gSx g k else 0
def smF (v n : Int32) : Int32 := if v - v / n * n < 0 then v - v / n * n + n else v - v / n * n
theorem smF_b (v : Int32) {N : Nat} (h0 : 0 < N) (hN : N < 2 ^ 15) : ∃ j, j < N ∧ smF v (nI N) = nI j := by
  have hb := tmod_bounds (a := v.toInt) (M := (N : Int)) (by omega)
  have hn := nI_toInt (n := N) (by omega)
  obtain ⟨z, hz⟩ : ∃ z, v.toInt.tmod (N : Int) = z := ⟨_, rfl⟩
  rw [hz] at hb
  have e : v - v / nI N * nI N = zI z := Int32.toInt_inj.mp (by rw [rem_toInt, hn, hz, zI_t (by omega) (by omega)])
  unfold smF
  rw [e]
  have ht : (zI z).toInt = z := zI_t (by omega) (by omega)
  by_cases h : z < 0
  · rw [if_pos (by rw [Int32.lt_iff_toInt_lt, ht]; exact h), nI_z (n := N) (by omega), zI_add]
    refine ⟨(z + N).toNat, by omega, ?_⟩
    rw [nI_z (by omega)]
    congr 1
    omega
  · rw [if_neg (by rw [Int32.lt_iff_toInt_lt, ht]; exact h)]
    refine ⟨z.toNat, by omega, ?_⟩
    rw [nI_z (by omega)]
    congr 1
    omega
def v_is (c : CS) (a b d : Int32) : Int32 := if v_reason c 0 = a ∧ v_reason c 1 = b ∧ v_reason c 2 = d then 1 else 0
set_option maxHeartbeats 4000000 in
set_option maxRecDepth 100000 in
theorem c_L_at (l : Launch) (hlf : l.stackTraces = false) (g : GC) (M : HM) (k : Nat) (hk : k < 1000) : KM g l yL_at cL_at 2 (some .int) 1 0 0 [.ref (gSb g), .int (nI k)] M (.inl (some (.int (atV g k)), M)) := by
  refine k_meth hlf (by decide) (Nat.le_of_ble_eq_true rfl) fun p e s m below meth c ls hc hr hnx hM hS hl => ?_
  have hc : Cx g p l s m [.ref (gSb g), .int (nI k)].toArray meth c cL_at 2 RL := hc
  have hx := hc.1
  have hb := hc.2.1
  have hL : gSL g ≤ 260 := hc.2.2.2.2.2.1.2.2.2.2.2.2.2.2.2.2.2.1.2.2.2
  have hl : lv_has ls 2 [(0, .ref (gSb g)), (1, .int (nI k))] := hl
  refine lv_iload_n hx hb dL_at_0 rfl (lv_at hl 1 rfl) ?_
  refine lv_aload_n hx hb dL_at_1 rfl (lv_at hl 0 rfl) ?_
  refine k_slen hc hS dL_at_2 ?_
  refine lv_icmp_ge (tgt := 12) hx hb dL_at_3 (by decide) (fun c_3 => ?_) (fun c_3 => ?_)
  · refine lv_iconst (v := 0) hx hb dL_at_12 (by decide) ?_
    have h9 : ¬ k < gSL g := fun q => nI_ge q (by omega) c_3
    exact k_iret hc hr dL_at_13 hM hS (Nat.le_of_ble_eq_true rfl) (Nat.le_of_ble_eq_true rfl) (by unfold atV; rw [if_neg h9])
  · have h9 : k < gSL g := by
      rcases Nat.lt_or_ge k (gSL g) with q | q
      · exact q
      · exact absurd (nI_le q (by omega)) c_3
    refine lv_aload_n hx hb dL_at_6 rfl (lv_at hl 0 rfl) ?_
    refine lv_iload_n hx hb dL_at_7 rfl (lv_at hl 1 rfl) ?_
    refine k_sld hc hS h9 dL_at_8 ?_
    refine lv_goto (tgt := 13) hx hb dL_at_9 (by decide) ?_
    exact k_iret hc hr dL_at_13 hM hS (Nat.le_of_ble_eq_true rfl) (Nat.le_of_ble_eq_true rfl) (by unfold atV; rw [if_pos h9])
set_option maxHeartbeats 4000000 in
set_option maxRecDepth 100000 in
theorem c_L_some (l : Launch) (hlf : l.stackTraces = false) (g : GC) (M : HM) (v n : Int32) (hn : ¬ n = 0) : KM g l yL_some cL_some 3 (some .int) 1 0 0 [.int v, .int n] M (.inl (some (.int (smF v n)), M)) := by
  refine k_meth hlf (by decide) (Nat.le_of_ble_eq_true rfl) fun p e s m below meth c ls hc hr hnx hM hS hl => ?_
  have hc : Cx g p l s m [.int v, .int n].toArray meth c cL_some 3 RL := hc
  have hx := hc.1
  have hb := hc.2.1
  have hl : lv_has ls 3 [(0, .int v), (1, .int n)] := hl
  refine lv_iload_n hx hb dL_some_0 rfl (lv_at hl 0 rfl) ?_
  refine lv_iload_n hx hb dL_some_1 rfl (lv_at hl 1 rfl) ?_
  refine lv_irem hx hb dL_some_2 hn ?_
  refine lv_istore_n (lv' := [(2, .int (v - v / n * n)), (0, .int v), (1, .int n)]) hx hb dL_some_3 rfl hl (by decide) rfl (fun ls hl => ?_)
  refine lv_iload_n hx hb dL_some_4 rfl (lv_at hl 0 rfl) ?_
  refine lv_if_ge (tgt := 14) hx hb dL_some_5 (by decide) (fun c_5 => ?_) (fun c_5 => ?_)
  · refine lv_iload_n hx hb dL_some_14 rfl (lv_at hl 0 rfl) ?_
    exact k_iret hc hr dL_some_15 hM hS (Nat.le_of_ble_eq_true rfl) (Nat.le_of_ble_eq_true rfl) (by unfold smF; rw [if_neg (fun q => by first | exact c_5 q | exact absurd q (Int32.not_lt.mpr c_5))])
  · refine lv_iload_n hx hb dL_some_8 rfl (lv_at hl 0 rfl) ?_
    refine lv_iload_n hx hb dL_some_9 rfl (lv_at hl 2 rfl) ?_
    refine lv_iadd hx hb dL_some_10 ?_
    refine lv_goto (tgt := 15) hx hb dL_some_11 (by decide) ?_
    exact k_iret hc hr dL_some_15 hM hS (Nat.le_of_ble_eq_true rfl) (Nat.le_of_ble_eq_true rfl) (by unfold smF; rw [if_pos (by first | exact c_5 | exact Decidable.not_not.mp c_5 | exact Int32.not_le.mp c_5)])
set_option maxHeartbeats 4000000 in
set_option maxRecDepth 100000 in
theorem c_L_is (l : Launch) (hlf : l.stackTraces = false) (g : GC) (M : HM) (x : Nat) (cs : CS) (a b d : Int32) (hW : ClsAt g M x cs) : KM g l yL_is cL_is 4 (some .boolean) 8 9 54 [.ref x, .int a, .int b, .int d] M (.inl (some (.int (v_is cs a b d)), M)) := by
  refine k_meth hlf (by decide) (Nat.le_of_ble_eq_true rfl) fun p e s m below meth c ls hc hr hnx hM hS hl => ?_
  have hc : Cx g p l s m [.ref x, .int a, .int b, .int d].toArray meth c cL_is 4 RL := hc
  have hx := hc.1
  have hb := hc.2.1
  have hl : lv_has ls 4 [(0, .ref x), (1, .int a), (2, .int b), (3, .int d)] := hl
  have hend : ∀ (H : Heap) (locs : List Loc) (ls : Array Slot) (cells slots : Nat), hR g M H → va_S (gA g) s.heap H locs → cells ≤ 9 → slots ≤ 54 → ¬ (v_reason cs 0 = a ∧ v_reason cs 1 = b ∧ v_reason cs 2 = d) → W p l e (rmOf 8 9 54) s m [Value.ref x, .int a, .int b, .int d].toArray below meth c H locs cells slots (vx_MQ below (KQ g (.inl (some (.int (v_is cs a b d)), M))) (KX g (.inl (some (.int (v_is cs a b d)), M))) [Value.ref x, .int a, .int b, .int d].toArray s 9 54 (gA g)) (F0 m 31 ls []) := by
    intro H locs ls cells slots hM hS h1 h2 h3
    refine lv_iconst (v := 0) hx hb dL_is_31 (by decide) ?_
    exact k_zret hc hr dL_is_32 hM hS (by rfl) h1 h2 (by unfold v_is; rw [if_neg h3])
  refine lv_aload_n hx hb dL_is_0 rfl (lv_at hl 0 rfl) ?_
  refine lv_iconst (v := 0) hx hb dL_is_1 (by decide) ?_
  refine k_SX1 hc [.ref x, .int 0] cw_L_158 dL_is_2 (h_reason l hlf g M x cs 0 hW) hM hS hl.1 rfl rfl ⟨Nat.le_of_ble_eq_true rfl, Nat.le_of_ble_eq_true rfl⟩ ⟨Nat.le_of_ble_eq_true rfl, Nat.le_of_ble_eq_true rfl⟩ (Nat.le_of_ble_eq_true rfl) (fun H locs hM hS => ?_)
  refine lv_iload_n hx hb dL_is_5 rfl (lv_at hl 1 rfl) ?_
  refine lv_icmp_ne (tgt := 31) hx hb dL_is_6 (by decide) (fun c_1 => hend H locs ls _ _ hM hS (Nat.le_of_ble_eq_true rfl) (Nat.le_of_ble_eq_true rfl) (fun q => c_1 q.1)) (fun c_1 => ?_)
  refine lv_aload_n hx hb dL_is_9 rfl (lv_at hl 0 rfl) ?_
  refine lv_iconst (v := 1) hx hb dL_is_10 (by decide) ?_
  refine k_SX1 hc [.ref x, .int 1] cw_L_158 dL_is_11 (h_reason l hlf g M x cs 1 hW) hM hS hl.1 rfl rfl ⟨Nat.le_of_ble_eq_true rfl, Nat.le_of_ble_eq_true rfl⟩ ⟨Nat.le_of_ble_eq_true rfl, Nat.le_of_ble_eq_true rfl⟩ (Nat.le_of_ble_eq_true rfl) (fun H locs hM hS => ?_)
  refine lv_iload_n hx hb dL_is_14 rfl (lv_at hl 2 rfl) ?_
  refine lv_icmp_ne (tgt := 31) hx hb dL_is_15 (by decide) (fun c_2 => hend H locs ls _ _ hM hS (Nat.le_of_ble_eq_true rfl) (Nat.le_of_ble_eq_true rfl) (fun q => c_2 q.2.1)) (fun c_2 => ?_)
  refine lv_aload_n hx hb dL_is_18 rfl (lv_at hl 0 rfl) ?_
  refine lv_iconst (v := 2) hx hb dL_is_19 (by decide) ?_
  refine k_SX1 hc [.ref x, .int 2] cw_L_158 dL_is_20 (h_reason l hlf g M x cs 2 hW) hM hS hl.1 rfl rfl ⟨Nat.le_of_ble_eq_true rfl, Nat.le_of_ble_eq_true rfl⟩ ⟨Nat.le_of_ble_eq_true rfl, Nat.le_of_ble_eq_true rfl⟩ (Nat.le_of_ble_eq_true rfl) (fun H locs hM hS => ?_)
  refine lv_iload_n hx hb dL_is_23 rfl (lv_at hl 3 rfl) ?_
  refine lv_icmp_ne (tgt := 31) hx hb dL_is_24 (by decide) (fun c_3 => hend H locs ls _ _ hM hS (Nat.le_of_ble_eq_true rfl) (Nat.le_of_ble_eq_true rfl) (fun q => c_3 q.2.2)) (fun c_3 => ?_)
  refine lv_iconst (v := 1) hx hb dL_is_27 (by decide) ?_
  refine lv_goto (tgt := 32) hx hb dL_is_28 (by decide) ?_
  have e1 : v_is cs a b d = 1 := by
    unfold v_is
    rw [if_pos ⟨by first | exact c_1 | exact Decidable.not_not.mp c_1, by first | exact c_2 | exact Decidable.not_not.mp c_2, by first | exact c_3 | exact Decidable.not_not.mp c_3⟩]
  exact k_zret hc hr dL_is_32 hM hS (by rfl) (Nat.le_of_ble_eq_true rfl) (Nat.le_of_ble_eq_true rfl) (by rw [e1])
