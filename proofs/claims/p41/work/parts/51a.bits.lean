/-! THE BITS of a float and a double that are no NaN -/
theorem qx_d1 : Cond.methodLink RJxe99ae 134 ⟨"java/lang/Double", "doubleToRawLongBits", "(D)J"⟩ ∈ lw_all := lw_in (List.mem_of_getElem? (i := 1040) (by decide +kernel)) (by decide +kernel)
theorem qx_d2 : Cond.static ⟨"java/lang/Double", "doubleToRawLongBits", "(D)J"⟩ ∈ lw_all := lw_in (List.mem_of_getElem? (i := 1041) (by decide +kernel)) (by decide +kernel)
theorem qx_d3 : Cond.native ⟨"java/lang/Double", "doubleToRawLongBits", "(D)J"⟩ ∈ lw_all := lw_in (List.mem_of_getElem? (i := 1042) (by decide +kernel)) (by decide +kernel)
theorem qx_f1 : Cond.methodLink RJxf58ca 74 ⟨"java/lang/Float", "floatToRawIntBits", "(F)I"⟩ ∈ lw_all := lw_in (List.mem_of_getElem? (i := 1058) (by decide +kernel)) (by decide +kernel)
theorem qx_f2 : Cond.static ⟨"java/lang/Float", "floatToRawIntBits", "(F)I"⟩ ∈ lw_all := lw_in (List.mem_of_getElem? (i := 1059) (by decide +kernel)) (by decide +kernel)
theorem qx_f3 : Cond.native ⟨"java/lang/Float", "floatToRawIntBits", "(F)I"⟩ ∈ lw_all := lw_in (List.mem_of_getElem? (i := 1060) (by decide +kernel)) (by decide +kernel)
theorem cw_Jxe99ae_122 : CwS RJxe99ae 122 1 yJxe99ae_isNaN_b9ae7 cJxe99ae_isNaN_b9ae7 2 (some .boolean) := ⟨q_Jxe99ae_122, qt_Jxe99ae_isNaN_b9ae7, qn_Double, qc_Jxe99ae_isNaN_b9ae7, by decide, by decide, by decide +kernel⟩
theorem cw_L_190 : CwS RL 190 1 yJxe99ae_doubleToLongBits_ccdee cJxe99ae_doubleToLongBits_ccdee 2 (some .long) := ⟨q_L_190, qt_Jxe99ae_doubleToLongBits_ccdee, qn_Double, qc_Jxe99ae_doubleToLongBits_ccdee, by decide, by decide, by decide +kernel⟩
theorem dJxe99ae_isNaN_b9ae7_0 : decode cJxe99ae_isNaN_b9ae7 0 = .ok (.dload_n 0, 1) := by decide +kernel
theorem dJxe99ae_isNaN_b9ae7_1 : decode cJxe99ae_isNaN_b9ae7 1 = .ok (.dload_n 0, 1) := by decide +kernel
theorem dJxe99ae_isNaN_b9ae7_2 : decode cJxe99ae_isNaN_b9ae7 2 = .ok (.dcmp .l, 1) := by decide +kernel
theorem dJxe99ae_isNaN_b9ae7_3 : decode cJxe99ae_isNaN_b9ae7 3 = .ok (.ifCond .eq 7, 3) := by decide +kernel
theorem dJxe99ae_isNaN_b9ae7_10 : decode cJxe99ae_isNaN_b9ae7 10 = .ok (.iconst 0, 1) := by decide +kernel
theorem dJxe99ae_isNaN_b9ae7_11 : decode cJxe99ae_isNaN_b9ae7 11 = .ok (.ireturn, 1) := by decide +kernel
theorem dJxe99ae_doubleToLongBits_ccdee_0 : decode cJxe99ae_doubleToLongBits_ccdee 0 = .ok (.dload_n 0, 1) := by decide +kernel
theorem dJxe99ae_doubleToLongBits_ccdee_1 : decode cJxe99ae_doubleToLongBits_ccdee 1 = .ok (.invokestatic 122, 3) := by decide +kernel
theorem dJxe99ae_doubleToLongBits_ccdee_4 : decode cJxe99ae_doubleToLongBits_ccdee 4 = .ok (.ifCond .ne 8, 3) := by decide +kernel
theorem dJxe99ae_doubleToLongBits_ccdee_7 : decode cJxe99ae_doubleToLongBits_ccdee 7 = .ok (.dload_n 0, 1) := by decide +kernel
theorem dJxe99ae_doubleToLongBits_ccdee_8 : decode cJxe99ae_doubleToLongBits_ccdee 8 = .ok (.invokestatic 134, 3) := by decide +kernel
theorem dJxe99ae_doubleToLongBits_ccdee_11 : decode cJxe99ae_doubleToLongBits_ccdee 11 = .ok (.lreturn, 1) := by decide +kernel
/-- a method of a class some of whose methods are run by entries, but not this one -/
theorem vx_ofF {l : Launch} {y : MethodName} {ws ws' : List Cond} {rm : Room} {Pc : Array Value → State → Prop} {Qc : Array Value → State → Outcome → State → Prop} {XC : String → State → State → Prop} {mc ms : Nat} {free : Addr → Prop} {cc : ByteArray} {maxL : Nat} {ret : Option FieldType}
    (hy : plainFor y = true) (hw : ws = Cond.code y cc maxL ret :: ws')
    (body : ∀ p e s m args below meth c s₁, BodyLoose p l y (headSpec ws rm) cc maxL ret e s m args below meth c s₁ → c.maxLocals = maxL → (∀ x ∈ c.exceptionTable.toList, False) → Pc args s →
      W p l e (headSpec ws rm).room s m args below meth c s.heap [] 0 0 (vx_MQ below Qc XC args s mc ms free) (entryFrame m args maxL)) : vx_Met l y ws rm Pc Qc XC mc ms free := by
  refine MetFree.of_bodySF (code := cc) (maxLocals := maxL) (ret := ret) hy ?_ ?_
  · intro args s m h hn
    obtain ⟨meth, c, h1, h2, h3, h4, h5, h6, -, -⟩ := Cond.code_spec hn (atoms_spec (ws := ws) h _ (by rw [hw]; exact List.mem_cons_self))
    exact ⟨meth, c, h1, h2, h3, h4, h5, h6⟩
  · intro p e s m args below meth c s₁ B hml hP _
    have hh0 : s₁.heap = s.heap := by rw [B.state]; rfl
    have ht : ∀ x ∈ c.exceptionTable.toList, False := by
      obtain ⟨meth9, c9, h1, h2, -, -, -, -, h7, -⟩ := Cond.code_spec B.named (atoms_spec (ws := ws) B.pre _ (by rw [hw]; exact List.mem_cons_self))
      cases Option.some.inj (h1.symm.trans B.method)
      cases Option.some.inj (h2.symm.trans (Stand.of_body B).code)
      intro x hx
      rw [Array.isEmpty_iff.mp h7] at hx
      cases hx
    obtain ⟨t, a1, o, b1, b2, b3⟩ := body p e s m args below meth c s₁ B hml ht hP s₁ hh0 (Stand.of_body B)
    exact ⟨t, o, a1, b1, b2, b3⟩
theorem k_methF {g : GC} {l : Launch} (hlf : l.stackTraces = false) {y : MethodName} {b : ByteArray} {nL : Nat} {r : Option FieldType} {d mc ms : Nat} {av : List Value} {M : HM} {res : Rs} (hy : plainFor y = true) (hn : (lg_sl av).length ≤ nL)
    (body : ∀ (p : Program) (e : Env) (s : State) (m : MethodId) (below : List Frame) (meth : Method) (c : Code) (ls : Array Slot), Cx g p l s m av.toArray meth c b nL y.cls → meth.sig.returnType = r → (∀ x ∈ c.exceptionTable.toList, False) → hR g M s.heap → va_S (gA g) s.heap s.heap [] → lv_has ls nL (lv_args 0 av) →
      W p l e (rmOf d mc ms) s m av.toArray below meth c s.heap [] 0 0 (vx_MQ below (KQ g res) (KX g res) av.toArray s mc ms (gA g)) (F0 m 0 ls [])) : KM g l y b nL r d mc ms av M res := by
  refine vx_ofF hy rfl ?_
  intro p e s m args below meth c s₁ B hml hnx hv
  obtain ⟨rfl, hM, hE⟩ := hv
  have hts0 := atoms_spec (ws := Cond.code y b nL r :: lw_all) B.pre
  have hl := lv_entry av (n := nL) hn
  rw [lg_entry_eq]
  exact body p e s m below meth c _ ⟨B.exec, B.bytes, hml, findClass_of_methodNamed B.named, fun w hw => hts0 w (List.mem_cons_of_mem _ hw), hE, B.notSynchronized, hlf⟩ B.returns hnx hM va_S.rf hl
set_option maxHeartbeats 4000000 in
set_option maxRecDepth 100000 in
theorem c_Jxe99ae_isNaN (l : Launch) (hlf : l.stackTraces = false) (g : GC) (M : HM) (b : UInt64) (hb9 : FP.dcmp b b = some .eq) : KM g l yJxe99ae_isNaN_b9ae7 cJxe99ae_isNaN_b9ae7 2 (some .boolean) 1 0 0 [.double b] M (.inl (some (.int 0), M)) := by
  refine k_meth hlf (by decide) (Nat.le_of_ble_eq_true rfl) fun p e s m below meth c ls hc hr hnx hM hS hl => ?_
  have hc : Cx g p l s m [.double b].toArray meth c cJxe99ae_isNaN_b9ae7 2 RJxe99ae := hc
  have hx := hc.1
  have hb := hc.2.1
  have hl : lv_has ls 2 [(0, .double b)] := hl
  refine lv_dload_n hx hb dJxe99ae_isNaN_b9ae7_0 rfl (lv_at hl 0 rfl) ?_
  refine lv_dload_n hx hb dJxe99ae_isNaN_b9ae7_1 rfl (lv_at hl 0 rfl) ?_
  refine lv_dcmp hx hb dJxe99ae_isNaN_b9ae7_2 ?_
  rw [hb9, show Op.cmpValue (some .eq) .l = 0 from rfl]
  refine lv_if_eq (tgt := 10) hx hb dJxe99ae_isNaN_b9ae7_3 (by decide) (fun _ => ?_) (fun h => absurd rfl h)
  refine lv_iconst (v := 0) hx hb dJxe99ae_isNaN_b9ae7_10 (by decide) ?_
  exact k_zret hc hr dJxe99ae_isNaN_b9ae7_11 hM hS rfl (Nat.le_of_ble_eq_true rfl) (Nat.le_of_ble_eq_true rfl) rfl
set_option maxHeartbeats 4000000 in
set_option maxRecDepth 100000 in
theorem c_Jxe99ae_bits (l : Launch) (hlf : l.stackTraces = false) (g : GC) (M : HM) (b : UInt64) (hb9 : FP.dcmp b b = some .eq) : KM g l yJxe99ae_doubleToLongBits_ccdee cJxe99ae_doubleToLongBits_ccdee 2 (some .long) 3 0 0 [.double b] M (.inl (some (.long b.toInt64), M)) := by
  refine k_meth hlf (by decide) (Nat.le_of_ble_eq_true rfl) fun p e s m below meth c ls hc hr hnx hM hS hl => ?_
  have hc : Cx g p l s m [.double b].toArray meth c cJxe99ae_doubleToLongBits_ccdee 2 RJxe99ae := hc
  have hx := hc.1
  have hb := hc.2.1
  have hl : lv_has ls 2 [(0, .double b)] := hl
  refine lv_dload_n hx hb dJxe99ae_doubleToLongBits_ccdee_0 rfl (lv_at hl 0 rfl) ?_
  refine k_S1 hc [.double b] cw_Jxe99ae_122 dJxe99ae_doubleToLongBits_ccdee_1 (c_Jxe99ae_isNaN l hlf g _ b hb9) hM hS hl.1 rfl rfl ⟨Nat.le_of_ble_eq_true rfl, Nat.le_of_ble_eq_true rfl⟩ ⟨Nat.le_of_ble_eq_true rfl, Nat.le_of_ble_eq_true rfl⟩ (Nat.le_of_ble_eq_true rfl) (fun H locs hM hS => ?_)
  refine lv_if_ne (tgt := 12) hx hb dJxe99ae_doubleToLongBits_ccdee_4 (by decide) (fun h => absurd rfl h) (fun _ => ?_)
  refine lv_dload_n hx hb dJxe99ae_doubleToLongBits_ccdee_7 rfl (lv_at hl 0 rfl) ?_
  refine vn_d2l hx hb (hc.2.2.1.trans hl.1.symm) hc.2.2.2.1 (hc.2.2.2.2.1 _ qx_d1) (hc.2.2.2.2.1 _ qx_d3) (hc.2.2.2.2.1 _ qx_d2) (hc.2.2.2.2.1 _ qn_Double) (Nat.le_of_ble_eq_true rfl) (Nat.le_of_ble_eq_true rfl) dJxe99ae_doubleToLongBits_ccdee_8 ?_
  exact k_lret hc hr dJxe99ae_doubleToLongBits_ccdee_11 hM hS (Nat.le_of_ble_eq_true rfl) (Nat.le_of_ble_eq_true rfl) rfl
theorem cw_Jxf58ca_59 : CwS RJxf58ca 59 1 yJxf58ca_isNaN_12338 cJxf58ca_isNaN_12338 1 (some .boolean) := ⟨q_Jxf58ca_59, qt_Jxf58ca_isNaN_12338, qn_Float, qc_Jxf58ca_isNaN_12338, by decide, by decide, by decide +kernel⟩
theorem cw_L_199 : CwS RL 199 1 yJxf58ca_floatToIntBits_5c35a cJxf58ca_floatToIntBits_5c35a 1 (some .int) := ⟨q_L_199, qt_Jxf58ca_floatToIntBits_5c35a, qn_Float, qc_Jxf58ca_floatToIntBits_5c35a, by decide, by decide, by decide +kernel⟩
theorem dJxf58ca_isNaN_12338_0 : decode cJxf58ca_isNaN_12338 0 = .ok (.fload_n 0, 1) := by decide +kernel
theorem dJxf58ca_isNaN_12338_1 : decode cJxf58ca_isNaN_12338 1 = .ok (.fload_n 0, 1) := by decide +kernel
theorem dJxf58ca_isNaN_12338_2 : decode cJxf58ca_isNaN_12338 2 = .ok (.fcmp .l, 1) := by decide +kernel
theorem dJxf58ca_isNaN_12338_3 : decode cJxf58ca_isNaN_12338 3 = .ok (.ifCond .eq 7, 3) := by decide +kernel
theorem dJxf58ca_isNaN_12338_10 : decode cJxf58ca_isNaN_12338 10 = .ok (.iconst 0, 1) := by decide +kernel
theorem dJxf58ca_isNaN_12338_11 : decode cJxf58ca_isNaN_12338 11 = .ok (.ireturn, 1) := by decide +kernel
theorem dJxf58ca_floatToIntBits_5c35a_0 : decode cJxf58ca_floatToIntBits_5c35a 0 = .ok (.fload_n 0, 1) := by decide +kernel
theorem dJxf58ca_floatToIntBits_5c35a_1 : decode cJxf58ca_floatToIntBits_5c35a 1 = .ok (.invokestatic 59, 3) := by decide +kernel
theorem dJxf58ca_floatToIntBits_5c35a_4 : decode cJxf58ca_floatToIntBits_5c35a 4 = .ok (.ifCond .ne 8, 3) := by decide +kernel
theorem dJxf58ca_floatToIntBits_5c35a_7 : decode cJxf58ca_floatToIntBits_5c35a 7 = .ok (.fload_n 0, 1) := by decide +kernel
theorem dJxf58ca_floatToIntBits_5c35a_8 : decode cJxf58ca_floatToIntBits_5c35a 8 = .ok (.invokestatic 74, 3) := by decide +kernel
theorem dJxf58ca_floatToIntBits_5c35a_11 : decode cJxf58ca_floatToIntBits_5c35a 11 = .ok (.ireturn, 1) := by decide +kernel
set_option maxHeartbeats 4000000 in
set_option maxRecDepth 100000 in
theorem c_Jxf58ca_isNaN (l : Launch) (hlf : l.stackTraces = false) (g : GC) (M : HM) (b : UInt32) (hb9 : FP.fcmp b b = some .eq) : KM g l yJxf58ca_isNaN_12338 cJxf58ca_isNaN_12338 1 (some .boolean) 1 0 0 [.float b] M (.inl (some (.int 0), M)) := by
  refine k_methF hlf (by decide +kernel) (Nat.le_of_ble_eq_true rfl) fun p e s m below meth c ls hc hr hnx hM hS hl => ?_
  have hc : Cx g p l s m [.float b].toArray meth c cJxf58ca_isNaN_12338 1 RJxf58ca := hc
  have hx := hc.1
  have hb := hc.2.1
  have hl : lv_has ls 1 [(0, .float b)] := hl
  refine lv_fload_n hx hb dJxf58ca_isNaN_12338_0 rfl (lv_at hl 0 rfl) ?_
  refine lv_fload_n hx hb dJxf58ca_isNaN_12338_1 rfl (lv_at hl 0 rfl) ?_
  refine lv_fcmp hx hb dJxf58ca_isNaN_12338_2 ?_
  rw [hb9, show Op.cmpValue (some .eq) .l = 0 from rfl]
  refine lv_if_eq (tgt := 10) hx hb dJxf58ca_isNaN_12338_3 (by decide) (fun _ => ?_) (fun h => absurd rfl h)
  refine lv_iconst (v := 0) hx hb dJxf58ca_isNaN_12338_10 (by decide) ?_
  exact k_zret hc hr dJxf58ca_isNaN_12338_11 hM hS rfl (Nat.le_of_ble_eq_true rfl) (Nat.le_of_ble_eq_true rfl) rfl
set_option maxHeartbeats 4000000 in
set_option maxRecDepth 100000 in
theorem c_Jxf58ca_bits (l : Launch) (hlf : l.stackTraces = false) (g : GC) (M : HM) (b : UInt32) (hb9 : FP.fcmp b b = some .eq) : KM g l yJxf58ca_floatToIntBits_5c35a cJxf58ca_floatToIntBits_5c35a 1 (some .int) 3 0 0 [.float b] M (.inl (some (.int b.toInt32), M)) := by
  refine k_methF hlf (by decide +kernel) (Nat.le_of_ble_eq_true rfl) fun p e s m below meth c ls hc hr hnx hM hS hl => ?_
  have hc : Cx g p l s m [.float b].toArray meth c cJxf58ca_floatToIntBits_5c35a 1 RJxf58ca := hc
  have hx := hc.1
  have hb := hc.2.1
  have hl : lv_has ls 1 [(0, .float b)] := hl
  refine lv_fload_n hx hb dJxf58ca_floatToIntBits_5c35a_0 rfl (lv_at hl 0 rfl) ?_
  refine k_S1 hc [.float b] cw_Jxf58ca_59 dJxf58ca_floatToIntBits_5c35a_1 (c_Jxf58ca_isNaN l hlf g _ b hb9) hM hS hl.1 rfl rfl ⟨Nat.le_of_ble_eq_true rfl, Nat.le_of_ble_eq_true rfl⟩ ⟨Nat.le_of_ble_eq_true rfl, Nat.le_of_ble_eq_true rfl⟩ (Nat.le_of_ble_eq_true rfl) (fun H locs hM hS => ?_)
  refine lv_if_ne (tgt := 12) hx hb dJxf58ca_floatToIntBits_5c35a_4 (by decide) (fun h => absurd rfl h) (fun _ => ?_)
  refine lv_fload_n hx hb dJxf58ca_floatToIntBits_5c35a_7 rfl (lv_at hl 0 rfl) ?_
  refine vn_f2i hx hb (hc.2.2.1.trans hl.1.symm) hc.2.2.2.1 (hc.2.2.2.2.1 _ qx_f1) (hc.2.2.2.2.1 _ qx_f3) (hc.2.2.2.2.1 _ qx_f2) (hc.2.2.2.2.1 _ qn_Float) (Nat.le_of_ble_eq_true rfl) (Nat.le_of_ble_eq_true rfl) dJxf58ca_floatToIntBits_5c35a_8 ?_
  exact k_iret hc hr dJxf58ca_floatToIntBits_5c35a_11 hM hS (Nat.le_of_ble_eq_true rfl) (Nat.le_of_ble_eq_true rfl) rfl
