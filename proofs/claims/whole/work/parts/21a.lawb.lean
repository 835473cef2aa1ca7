/-! METHODS WITH A TABLE OF CATCHES: their contracts, their calls -/
def KH (g : GC) (l : Launch) (y : MethodName) (b : ByteArray) (nL : Nat) (hh : List (Nat × Nat × Nat × Nat)) (d mc ms : Nat) (av : List Value) (M : HM) (res : Rs) : Prop :=
  vx_Met l y (Cond.codeWith y b nL (some .int) hh :: lw_all) (rmOf d mc ms) (KP g M av) (KQ g res) (KX g res) mc ms (gA g)
theorem k_methH {g : GC} {l : Launch} (hlf : l.stackTraces = false) {y : MethodName} {b : ByteArray} {nL : Nat} {hh : List (Nat × Nat × Nat × Nat)} {d mc ms : Nat} {av : List Value} {M : HM} {res : Rs} (hy : plainName y.cls = true) (hn : (lg_sl av).length ≤ nL)
    (body : ∀ (p : Program) (e : Env) (s : State) (m : MethodId) (below : List Frame) (meth : Method) (c : Code) (ls : Array Slot), Cx g p l s m av.toArray meth c b nL y.cls → meth.sig.returnType = some .int → c.exceptionTable.toList = tableOf hh → hR g M s.heap → va_S (gA g) s.heap s.heap [] → lv_has ls nL (lv_args 0 av) →
      W p l e (rmOf d mc ms) s m av.toArray below meth c s.heap [] 0 0 (vx_MQ below (KQ g res) (KX g res) av.toArray s mc ms (gA g)) (F0 m 0 ls [])) : KH g l y b nL hh d mc ms av M res := by
  refine vx_ofWH hy rfl ?_
  intro p e s m args below meth c s₁ B hml hv
  obtain ⟨rfl, hM, hE⟩ := hv
  have hts0 := atoms_spec (ws := Cond.codeWith y b nL (some .int) hh :: lw_all) B.pre
  have hl := lv_entry av (n := nL) hn
  rw [lg_entry_eq]
  exact body p e s m below meth c _ ⟨B.exec, B.bytes, hml, findClass_of_methodNamed B.named, fun w hw => hts0 w (List.mem_cons_of_mem _ hw), hE, B.notSynchronized, hlf⟩ B.returns (vx_table (x := y) B (hts0 _ List.mem_cons_self)) hM va_S.rf hl
def CwSX (own : String) (index n : Nat) (y : MethodName) (b : ByteArray) (nLc : Nat) (hh : List (Nat × Nat × Nat × Nat)) : Prop :=
  Cond.methodLink own index y ∈ lw_all ∧ Cond.static y ∈ lw_all ∧ Cond.initialized y.cls ∈ lw_all ∧ Cond.codeWith y b nLc (some .int) hh ∈ lw_all ∧ y.cls ≠ "java/lang/invoke/MethodHandle" ∧ y.cls ≠ "java/lang/invoke/VarHandle" ∧ (parseMethodDescriptor y.desc).map (fun d => d.parameters.length) = some n
theorem lw_gSX {own : String} {index n : Nat} {y : MethodName} {b : ByteArray} {hh : List (Nat × Nat × Nat × Nat)} (h1 : Cond.methodLink own index y ∈ lw_all) (h2 : Cond.static y ∈ lw_all) (h4 : Cond.initialized y.cls ∈ lw_all) (h5 : Cond.codeWith y b n (some .int) hh ∈ lw_all) : GoodIn lw_all (va_wsS own index y (Cond.codeWith y b n (some .int) hh :: lw_all)) := by
  intro w hw
  have hm : w ∈ lw_all := by
    simp only [va_wsS, List.mem_append, List.mem_cons, List.not_mem_nil, or_false] at hw
    rcases hw with (rfl | rfl | rfl) | rfl | h
    all_goals assumption
  exact ⟨hm, lw_all_good hm⟩
section KHX
variable {p : Program} {l : Launch} {e : Env} {R : Room} {s : State} {m : MethodId} {args : Array Value} {below : List Frame} {meth : Method} {c : Code} {H : Heap} {locs : List Loc} {cells slots : Nat} {Q : State → Prop}
variable {cc : ByteArray} {pc nL : Nat} {ls : Array Slot} {rest st0 : List Value} {g : GC} {M M1 : HM} {own : String} {v : Value}
theorem k_SX1 (hc : Cx g p l s m args meth c cc nL own) {index n d mc ms nLc : Nat} {y : MethodName} {bc : ByteArray} {hh : List (Nat × Nat × Nat × Nat)} (As : List Value) (hw : CwSX own index n y bc nLc hh) (hdg : decode cc pc = .ok (.invokestatic index, 3))
    (hK : KH g l y bc nLc hh d mc ms As M (.inl (some v, M1))) (hM : hR g M H) (hS : va_S (gA g) s.heap H locs) (hl : ls.size = nL) (hn : As.length = n) (hst : As.reverse ++ rest = st0) (hroom : d + 1 ≤ R.frames ∧ 8 + (nLc + 11) + 60 * d ≤ R.locals) (hf : cells + mc ≤ R.cells ∧ slots + ms ≤ R.slots) (hW : (rest.map fun v => v.category).sum ≤ 8)
    (kk : ∀ (H1 : Heap) (locs1 : List Loc), hR g M1 H1 → va_S (gA g) s.heap H1 locs1 → W p l e R s m args below meth c H1 locs1 (cells + mc) (slots + ms) Q (F0 m (pc + 3) ls (v :: rest))) : W p l e R s m args below meth c H locs cells slots Q (F0 m pc ls st0) := by
  subst hst
  obtain ⟨w1, w2, w4, w5, w7, w8, w9⟩ := hw
  exact k_ran (vx_runSX (As := As) (rest := rest) ⟨hc.1, hc.2.1, hc.2.2.1, hc.2.2.2.1, hc.2.2.2.2.1⟩ hK (vx_cwSW n hc.2.2.2.2.1 (lw_gSX w1 w2 w4 w5) rfl rfl rfl ⟨w7, w8, w9⟩ hroom) ⟨KP.blind, hc.pre hM hS⟩ rfl hn hl rfl (by show 2 * 0 + _ ≤ 8; omega) hdg hf) hS (fun v2 M2 H1 locs1 hr hM1 hS1 => by cases hr; exact kk H1 locs1 hM1 hS1) (fun _ _ _ _ _ _ hr => by cases hr)
/-- caught by a row of this method's table -/
theorem k_catch (hc : Cx g p l s m args meth c cc nL own) {E : String} {ce : Cell} {q : Addr} (hcast : Cond.castable E E ∈ lw_nk) (pre : List ExceptionTableEntry) (x : ExceptionTableEntry) (suf : List ExceptionTableEntry) (hsplit : c.exceptionTable.toList = pre ++ x :: suf)
    (hpass : ∀ z ∈ pre, z.catchType ≠ 0 ∧ ∃ nm : String, Cond.classLink own z.catchType nm ∈ lw_all ∧ (E, nm) ∈ lw_nc) (hx : covers x pc = true) (h0 : x.catchType ≠ 0) (hlink : Cond.classLink own x.catchType E ∈ lw_all) (hcell : H[q]? = some ce) (hv : ce.vm = .none) (hcl : s.vm.findClass E = some ce.cls)
    (kk : W p l e R s m args below meth c H locs cells slots Q (F0 m x.handlerPc ls [.ref q])) : vx_W p l e R s m args below meth c H locs cells slots Q (F0 m pc ls rest) q := by
  obtain ⟨-, -, -, -, h3, -, -, -, -, -, h9⟩ := hc.2.2.2.2.2.1
  refine vx_catch hc.2.2.2.1 pre x suf hsplit (fun z hz => ?_) hx h0 (hc.2.2.2.2.1 _ hlink) (va_Nw.use ?_ (h3 _ hcast)) hcell hv hcl kk
  · obtain ⟨z1, nm, z2, z3⟩ := hpass z hz
    exact Or.inr ⟨z1, nm, hc.2.2.2.2.1 _ z2, h9 _ z3⟩
  · have : ∀ w ∈ lw_nk, w.onTables = true := by decide +kernel
    exact this _ hcast
end KHX
/-- what a method of the law answers: 0 and the answer in the array, or the row that caught -/
def hOut (g : GC) (o : Nat) (Es : List String) (res res2 : Rs) : Prop :=
  (∃ (v : Int32) (M1 : HM) (f : Nat → Int64), res = .inl (some (.int v), M1) ∧ M1 o = some (.inl (gJ g, 1, .inr (.inl f))) ∧ res2 = .inl (some (.int 0), upM M1 o (.inl (gJ g, 1, .inr (.inl (vp_updL f 0 v.toInt64)))))) ∨
  ∃ (k : Nat) (E : String) (M1 : HM), Es[k]? = some E ∧ res = .inr (E, M1) ∧ res2 = .inl (some (.int (nI (k + 1))), M1)
def hOutF (g : GC) (o : Nat) (Es : List String) (res res2 : Rs) : Prop :=
  (∃ (v : UInt32) (M1 : HM) (f : Nat → UInt64), res = .inl (some (.float v), M1) ∧ vf_n64 (FP.f2d v) ∧ M1 o = some (.inl (gD g, 1, .inr (.inr (.inr (.inl f))))) ∧ res2 = .inl (some (.int 0), upM M1 o (.inl (gD g, 1, .inr (.inr (.inr (.inl (vf_upd f 0 (FP.f2d v))))))))) ∨
  ∃ (k : Nat) (E : String) (M1 : HM), Es[k]? = some E ∧ res = .inr (E, M1) ∧ res2 = .inl (some (.int (nI (k + 1))), M1)
def hOutD (g : GC) (o : Nat) (Es : List String) (res res2 : Rs) : Prop :=
  (∃ (v : UInt64) (M1 : HM) (f : Nat → UInt64), res = .inl (some (.double v), M1) ∧ M1 o = some (.inl (gD g, 1, .inr (.inr (.inr (.inl f))))) ∧ res2 = .inl (some (.int 0), upM M1 o (.inl (gD g, 1, .inr (.inr (.inr (.inl (vf_upd f 0 v)))))))) ∨
  ∃ (k : Nat) (E : String) (M1 : HM), Es[k]? = some E ∧ res = .inr (E, M1) ∧ res2 = .inl (some (.int (nI (k + 1))), M1)
theorem in01 : vp_in 0 1 := vp_in_nI (n := 0) (N := 1) (by decide) (by decide)
