/-! THE BUILDER IN THE HEAP'S PICTURE -/
/-- a builder at a, of n signs, over the heap M0 that was before her -/
def SbW (g : GC) (M0 : HM) (a n : Nat) (M : HM) : Prop := ∃ (d : Nat) (z : Value) (f : Nat → Int32), (∀ q e, M0 q = some e → M q = some e ∧ q ≠ a ∧ q ≠ d) ∧ M a = some (.inr (8, [.ref d, .int 0, z, .int (nI n)])) ∧ M d = some (.inl (gD g, 16, .inl f)) ∧ BtOk 16 f
theorem sb_ne {M : HM} {a d : Nat} {x : Nat × List Value} {y : ClassId × vp_A} (h1 : M a = some (.inr x)) (h2 : M d = some (.inl y)) : a ≠ d := by
  intro h
  subst h
  rw [h1] at h2
  cases h2
theorem SbW.setD {g : GC} {M0 M : HM} {a n d : Nat} {z : Value} {f f1 : Nat → Int32} (h0 : ∀ q e, M0 q = some e → M q = some e ∧ q ≠ a ∧ q ≠ d) (hA : M a = some (.inr (8, [.ref d, .int 0, z, .int (nI n)]))) (hD : M d = some (.inl (gD g, 16, .inl f))) (hf : BtOk 16 f1) : SbW g M0 a n (upM M d (.inl (gD g, 16, .inl f1))) :=
  ⟨d, z, f1, fun q e hq => ⟨by rw [upM_ne (h0 q e hq).2.2]; exact (h0 q e hq).1, (h0 q e hq).2⟩, by rw [upM_ne (sb_ne hA hD)]; exact hA, upM_at, hf⟩
theorem SbW.setN {g : GC} {M0 M : HM} {a n k d : Nat} {z : Value} {f : Nat → Int32} (h0 : ∀ q e, M0 q = some e → M q = some e ∧ q ≠ a ∧ q ≠ d) (hA : M a = some (.inr (8, [.ref d, .int 0, z, .int (nI n)]))) (hD : M d = some (.inl (gD g, 16, .inl f))) (hf : BtOk 16 f) : SbW g M0 a k (upM M a (.inr (8, [.ref d, .int 0, z, .int (nI k)]))) :=
  ⟨d, z, f, fun q e hq => ⟨by rw [upM_ne (h0 q e hq).2.1]; exact (h0 q e hq).1, (h0 q e hq).2⟩, upM_at, by rw [upM_ne (sb_ne hA hD).symm]; exact hD, hf⟩
/-- a text at b, of n signs -/
def StW (g : GC) (M0 : HM) (b n : Nat) (M : HM) : Prop := ∃ (x : Nat) (h1 h2 : Value) (f : Nat → Int32), (∀ q e, M0 q = some e → M q = some e) ∧ (M0 b = none ∧ M0 x = none) ∧ M b = some (.inr (0, [.ref x, .int 0, h1, h2])) ∧ M x = some (.inl (gD g, n, .inl f))
section SBS
variable {p : Program} {l : Launch} {e : Env} {R : Room} {s : State} {m : MethodId} {args : Array Value} {below : List Frame} {meth : Method} {c : Code} {H : Heap} {locs : List Loc} {cells slots : Nat} {Q : State → Prop}
variable {cc : ByteArray} {pc nL : Nat} {ls : Array Slot} {rest st0 : List Value} {g : GC} {M : HM} {own : String} {mc ms : Nat} {S : Option Value → HM → Prop}
/-- a private method of the builder -/
theorem sel_priv (hc : Cx g p l s m args meth c cc nL own) {y : MethodName} {n : Nat} {bc : ByteArray} {nLc : Nat} {r : Option FieldType} (hi : Cond.instanceMethod y ∈ lw_all) (hcd : Cond.code y bc nLc r ∈ lw_all) (hsm : Cond.sameMethod RJ5 RJ5 y.name y.desc ∈ lw_all) (hp : y ∈ sbPr) (hcl : y.cls = RJ5) (hn : (parseMethodDescriptor y.desc).map (fun d => d.parameters.length) = some n) (cls : ClassId) : SelZ e s y y cls n := by
  have hts := hc.2.2.2.2.1
  obtain ⟨mk, methM, hnamed, hmethM, hstM, habM⟩ := Cond.instanceMethod_spec (hts _ hi)
  obtain ⟨methM', cM, hmethM', -, -, -, -, -, -, hsigM⟩ := Cond.code_spec hnamed (hts _ hcd)
  cases hmethM.symm.trans hmethM'
  obtain ⟨c9, ck, r9, q1, q2, q3, q4, q5⟩ := Cond.sameMethod_found (hts _ hsm)
  have hm9 : mk.cls = c9 := by
    have h9 := findClass_of_methodNamed hnamed
    rw [hcl] at h9
    exact Option.some.inj (h9.symm.trans q1)
  have hpv : s.PrivateAt y := Cond.privateMethod_at (hc.2.2.2.2.2.1.2.2.2.2.2.2.2.2.2.2.2.2.1 y hp)
  have hn9 : n = methM.sig.parameters.length := by
    rw [hsigM] at hn
    exact (Option.some.inj hn).symm
  exact ⟨mk, mk, methM, methM, ck, ck, hnamed, hmethM, hstM, by rw [hm9]; exact q2, q3, selectMethod_private hmethM (hpv mk methM hnamed hmethM), hnamed, hmethM, habM, by rw [hm9]; exact q2, q3, hn9⟩
/-- a method that the builder's class inherits or overrides -/
theorem sel_inh (hc : Cx g p l s m args meth c cc nL own) {C : String} {y z : MethodName} {n : Nat} {bc : ByteArray} {nLc : Nat} {r : Option FieldType} (hi : Cond.instanceMethod y ∈ lw_all) (hcd : Cond.code y bc nLc r ∈ lw_all) (hiz : Cond.instanceMethod z ∈ lw_all) (hsm : Cond.sameMethod y.cls y.cls y.name y.desc ∈ lw_all) (hse : Cond.selects C y z ∈ lw_all) (hy : y.cls ≠ "java/lang/invoke/MethodHandle" ∧ y.cls ≠ "java/lang/invoke/VarHandle") (hn : (parseMethodDescriptor y.desc).map (fun d => d.parameters.length) = some n)
    (hpl : ∀ cls mk, selectMethod e.platform s.vm cls mk = selectMethod {} s.vm cls mk) (cls : ClassId) (hcls : s.vm.findClass C = some cls) : SelZ e s y z cls n := by
  have hts := hc.2.2.2.2.1
  obtain ⟨mk, methM, hnamed, hmethM, hstM, habM⟩ := Cond.instanceMethod_spec (hts _ hi)
  obtain ⟨methM', cM, hmethM', -, -, -, -, -, -, hsigM⟩ := Cond.code_spec hnamed (hts _ hcd)
  cases hmethM.symm.trans hmethM'
  obtain ⟨mz, methZ, hnz, hmethZ, -, habZ⟩ := Cond.instanceMethod_spec (hts _ hiz)
  obtain ⟨c9, ck, r9, q1, q2, q3, q4, q5⟩ := Cond.sameMethod_found (hts _ hsm)
  have hm9 : mk.cls = c9 := Option.some.inj ((findClass_of_methodNamed hnamed).symm.trans q1)
  obtain ⟨c2, r2, m2, w1, w2, w3, w4, kP, hkP, hkPi⟩ := Cond.selects_spec (hts _ hse)
  cases hcls.symm.trans w1
  cases (State.methodFound?_of_named hnamed hy).symm.trans w2
  cases hnz.symm.trans w3
  have hn9 : n = methM.sig.parameters.length := by
    rw [hsigM] at hn
    exact (Option.some.inj hn).symm
  exact ⟨mk, mz, methM, methZ, ck, kP, hnamed, hmethM, hstM, by rw [hm9]; exact q2, q3, by rw [hpl]; exact w4, hnz, hmethZ, habZ, hkP, hkPi, hn9⟩
/-- the superclass's own method, on a builder -/
theorem sup_sb (hc : Cx g p l s m args meth c cc nL RJ4) {y : MethodName} {index n : Nat} {bc : ByteArray} {nLc : Nat} {r : Option FieldType} (hi : Cond.instanceMethod y ∈ lw_all) (hcd : Cond.code y bc nLc r ∈ lw_all) (hsm : Cond.sameMethod y.cls y.cls y.name y.desc ∈ lw_all) (hsu : Cond.superclass RJ4 RJ5 ∈ lw_all) (hcl : y.cls = RJ5) (hni : y.name ≠ "<init>") (hn : (parseMethodDescriptor y.desc).map (fun d => d.parameters.length) = some n)
    (cls : ClassId) (hcls : s.vm.findClass RJ4 = some cls) : SupZ s m RJ4 index y cls args n := by
  have hts := hc.2.2.2.2.1
  obtain ⟨mk, methM, hnamed, hmethM, hstM, habM⟩ := Cond.instanceMethod_spec (hts _ hi)
  obtain ⟨methM', cM, hmethM', -, -, -, -, -, -, hsigM⟩ := Cond.code_spec hnamed (hts _ hcd)
  cases hmethM.symm.trans hmethM'
  obtain ⟨pp, k, kp, u1, u2, u3, u4, u5, u6, u7⟩ := Cond.superclass_spec hcls (hts _ hsu)
  have hmc : m.cls = cls := Option.some.inj (hc.2.2.2.1.symm.trans hcls)
  have hmk : mk.cls = pp := by
    have h9 := findClass_of_methodNamed hnamed
    rw [hcl] at h9
    exact Option.some.inj (h9.symm.trans u1)
  have hn9 : n = methM.sig.parameters.length := by
    rw [hsigM] at hn
    exact (Option.some.inj hn).symm
  exact ⟨mk, methM, k, pp, k, hts _ hsm, hnamed, hmethM, hstM, habM, hni, by rw [hmc]; exact u2, u7, by rw [hcl]; exact u1, u4, by rw [hmk]; exact Jvm.Free.SB.SBLen.isSubclass_self _ _ _ u3, u2, hn9⟩
/-- Integer's tables of digits -/
theorem k_dig1 (hc : Cx g p l s m args meth c cc nL own) (hS : va_S (gA g) s.heap H locs) {index : Nat} (hlink : Cond.fieldLink own index RJ6 "DigitOnes" "[B" ∈ lw_all) (hdg : decode cc pc = .ok (.getstatic index, 3))
    (kk : ∀ (d1 : Nat) (f : Nat → Value), va_T .byte d1 100 f (gA g) s s.heap → (∀ j, j < 100 → ∃ v, f j = .int v) → W p l e R s m args below meth c H locs cells slots Q (F0 m (pc + 3) ls (.ref d1 :: rest))) : W p l e R s m args below meth c H locs cells slots Q (F0 m pc ls rest) := by
  obtain ⟨-, ist, d1, d2, D1, D2, ⟨cf, i, k, f, cellS, t1, t2, t3, t4, t5, t6, t7, t8, t9, t10, t11, t12⟩, -, ⟨n0, n1, -⟩, l0, l1, -⟩ := hc.2.2.2.2.2.1.2.2.2.2.2.2.2.2.2.2.2.2
  refine W.gets hc.1 hc.2.1 hc.2.2.2.1 (hc.2.2.2.2.1 _ hlink) t1 t2 t3 t4 (by rw [hS.2.1 _ l0 n0]; exact t5) t6 t7 rfl hdg (kk d1 (fun j => .int (Jvm.Free.SBG.iAt D1 j)) ⟨D1, t8, t9, t10, by omega, by rw [t11], t12, n1⟩ (fun j _ => ⟨_, rfl⟩))
theorem k_dig2 (hc : Cx g p l s m args meth c cc nL own) (hS : va_S (gA g) s.heap H locs) {index : Nat} (hlink : Cond.fieldLink own index RJ6 "DigitTens" "[B" ∈ lw_all) (hdg : decode cc pc = .ok (.getstatic index, 3))
    (kk : ∀ (d1 : Nat) (f : Nat → Value), va_T .byte d1 100 f (gA g) s s.heap → (∀ j, j < 100 → ∃ v, f j = .int v) → W p l e R s m args below meth c H locs cells slots Q (F0 m (pc + 3) ls (.ref d1 :: rest))) : W p l e R s m args below meth c H locs cells slots Q (F0 m pc ls rest) := by
  obtain ⟨-, ist, d1, d2, D1, D2, -, ⟨cf, i, k, f, cellS, t1, t2, t3, t4, t5, t6, t7, t8, t9, t10, t11, t12⟩, ⟨n0, -, n1⟩, l0, -, l1⟩ := hc.2.2.2.2.2.1.2.2.2.2.2.2.2.2.2.2.2.2
  refine W.gets hc.1 hc.2.1 hc.2.2.2.1 (hc.2.2.2.2.1 _ hlink) t1 t2 t3 t4 (by rw [hS.2.1 _ l0 n0]; exact t5) t6 t7 rfl hdg (kk d2 (fun j => .int (Jvm.Free.SBG.iAt D2 j)) ⟨D2, t8, t9, t10, by omega, by rw [t11], t12, n1⟩ (fun j _ => ⟨_, rfl⟩))
/-- System.arraycopy of bytes -/
theorem k_copyB (hc : Cx g p l s m args meth c cc nL own) {index : Nat} (hq : Cond.methodLink own index arraycopyName ∈ lw_all) {a a0 n0 n1 : Nat} {f1 : Nat → Int32} {c0 : Cell} {k0 : Class} {cm0 : ClassId} (hk0 : s.vm.classes[c0.cls]? = some k0) (hkk0 : k0.kind = .array cm0 .byte) (hv0 : c0.vm ≠ .unknown) (hw0 : ∀ k, c0.vm ≠ .statics k) (hz0 : n0 ≤ c0.slots.size) {F : Nat → Int32} (hb0 : ∀ j, j < n0 → c0.slots[j]? = some (.int (F j))) (hF : BtOk n0 F) (hf1 : BtOk n1 f1)
    (ha0 : H[a0]? = some c0) (ha1 : M a = some (.inl (gD g, n1, .inl f1))) (hM : hR g M H) (hS : va_S (gA g) s.heap H locs) (hlz : ls.size = nL)
    {sp dp n : Int32} (h1 : ¬ sp < 0) (h2 : ¬ dp < 0) (h3 : ¬ n < 0) (h4 : sp.toNatClampNeg + n.toNatClampNeg ≤ n0) (h5 : dp.toNatClampNeg + n.toNatClampNeg ≤ n1)
    (hroom : 1 ≤ R.frames ∧ (rest.map fun v => v.category).sum + (nativeFrameWords "java/lang/System" "arraycopy" 5 + 11) ≤ R.locals) (hdg : decode cc pc = .ok (.invokestatic index, 3))
    (kk : ∀ (H1 : Heap) (locs1 : List Loc) (f2 : Nat → Int32), BtOk n1 f2 → hR g (upM M a (.inl (gD g, n1, .inl f2))) H1 → va_S (gA g) s.heap H1 locs1 → W p l e R s m args below meth c H1 locs1 cells slots Q (F0 m (pc + 3) ls rest)) : W p l e R s m args below meth c H locs cells slots Q (F0 m pc ls (.int n :: .int dp :: .ref a :: .int sp :: .ref a0 :: rest)) := by
  have nn : ∀ z : Int32, ¬ z < 0 → z.toInt = (z.toNatClampNeg : Int) := by
    intro z hz
    have hz0 : (0 : Int) ≤ z.toInt := by
      have := Int32.not_lt.mp hz
      simpa using Int32.le_iff_toInt_le.mp this
    show z.toInt = ((z.toInt.toNat : Nat) : Int)
    omega
  obtain ⟨hexec, hb, hml0, hown, hts, hE, hlk, hst0⟩ := hc
  have hml : c.maxLocals = ls.size := hml0.trans hlz.symm
  have hK := hE.1
  intro T hT X
  have hc1 : H[a]? = some (vp_cell (gD g) (n1, .inl f1)) := (hM a _ ha1).2
  obtain ⟨-, k1, hk1, cm1, hkk1⟩ := (hK.2 2 _ rfl).1 n1 (fun j => .int (f1 j))
  have hg0 : ∀ j, j < n0 → c0.slots.getD j .null = .int (F j) := fun j hj => by
    rw [Array.getD_eq_getD_getElem?, hb0 j hj]
    rfl
  obtain ⟨vm', X', step⟩ := X.arraycopy hexec hown (hts _ hq) (hts _ qv_acopy) (hts _ qt_acopy) (hts _ qn_System) (src := a0) (dst := a) (cs := c0) (cd := vp_cell (gD g) (n1, .inl f1)) (srcPos := sp) (destPos := dp) (n := n) (by rw [hT]; exact ha0) (by rw [hT]; exact hc1)
    hw0 (fun _ h => by cases h) hv0 (fun h => by cases h) hk0 hk1 hkk0 hkk1 (by simp [refKind]) h1 h2 h3
    (by rw [nn sp h1, nn n h3]; omega)
    (by rw [nn dp h2, nn n h3]; show ¬ _ > ((arrV (gD g) n1 (fun j => .int (f1 j))).slots.size : Int); rw [arrV_size]; omega)
    (fun vm₁ _ i hi => by
      have e := hg0 (sp.toNatClampNeg + i) (by omega)
      refine ⟨?_, ?_⟩
      · rw [e]
        exact hF _ (by omega)
      · rw [e]
        exact trivial)
    (g := F0 m pc ls (.int n :: .int dp :: .ref a :: .int sp :: .ref a0 :: rest)) rfl (by rw [hml]) (rest := rest) rfl (by rw [hb]; exact hdg) hroom.1 (by have := hroom.2; show 2 * 0 + _ + _ ≤ _; omega)
  obtain ⟨f2, e1, hf2⟩ : ∃ f2 : Nat → Int32, copied c0 (vp_cell (gD g) (n1, .inl f1)) sp dp n = vp_cell (gD g) (n1, .inl f2) ∧ BtOk n1 f2 := by
    refine ⟨va_cpy F f1 sp.toNatClampNeg dp.toNatClampNeg n.toNatClampNeg, ?_, fun j hj => ?_⟩
    · refine Eq.trans ?_ (va_copied (fun z : Int32 => .int z) (gD g) (gD g) F f1 h4)
      show (vp_cell (gD g) (n1, .inl f1)).storeRun dp.toNatClampNeg (c0.stretch sp.toNatClampNeg n.toNatClampNeg) = (vp_cell (gD g) (n1, .inl f1)).storeRun dp.toNatClampNeg ((arrV (gD g) n0 (fun j => .int (F j))).stretch sp.toNatClampNeg n.toNatClampNeg)
      congr 1
      unfold Cell.stretch
      apply List.map_congr_left
      intro i hi
      have hi' := List.mem_range.mp hi
      rw [hg0 _ (by omega), Array.getD_eq_getD_getElem?, arrV_read _ _ (by omega)]
      rfl
    · show fits .byte (.int (va_cpy F f1 _ _ _ j)) = true
      unfold va_cpy
      split
      · exact hF _ (by omega)
      · exact hf1 j hj
  rw [e1] at X' step
  have hl : a < H.size := (Array.getElem?_eq_some_iff.mp hc1).1
  have hheap : ((T.setVm vm').setCell a (vp_cell (gD g) (n1, .inl f2))).heap = H.setIfInBounds a (vp_cell (gD g) (n1, .inl f2)) := by rw [← hT]; rfl
  have oq : ∀ q : Nat, q ≠ a → (H.setIfInBounds a (vp_cell (gD g) (n1, .inl f2)))[q]? = H[q]? := fun q hq => by simp [Array.getElem?_setIfInBounds, Ne.symm hq]
  have hlow : gB g ≤ a := hM.low ha1
  obtain ⟨t, a1, b1⟩ := kk _ _ f2 hf2 (hM.put hlow (show (H.setIfInBounds a _)[a]? = some _ by simp [Array.getElem?_setIfInBounds, hl]) oq) ⟨by simp; exact hS.1, fun q g1 g2 => by
      rw [oq q (fun e => g2 (by rw [e]; exact hlow))]
      exact hS.2.1 q g1 g2, fun q hq => by
      rcases List.mem_append.mp hq with h | h
      · exact hS.2.2 q h
      · obtain ⟨z, -, hz⟩ := List.mem_map.mp h
        rw [← hz]
        exact hlow⟩ _ hheap X'
  exact ⟨t, step t a1, b1⟩
end SBS
