/-! A METHOD FROM ITS ENTRY; calls whose end is known; the JDK's own functions -/
def minI (x y : Int32) : Int32 := if y < x then y else x
def maxI (x y : Int32) : Int32 := if x < y then y else x
def absI (x : Int32) : Int32 := if 0 ≤ x then x else 0 - x
def bI (c : Prop) [Decidable c] : Int32 := if c then 1 else 0
theorem bI_t {c : Prop} [Decidable c] (h : c) : bI c = 1 := if_pos h
theorem bI_f {c : Prop} [Decidable c] (h : ¬ c) : bI c = 0 := if_neg h
theorem bI_ne {c : Prop} [Decidable c] : ¬ bI c = 0 ↔ c := by
  by_cases h : c
  · simp [bI, h]
  · simp [bI, h]
theorem bI_eq {c : Prop} [Decidable c] : bI c = 0 ↔ ¬ c := by
  by_cases h : c
  · simp [bI, h]
  · simp [bI, h]
theorem bI_n {c : Prop} [Decidable c] : narrow .boolean (.int (bI c)) = .int (bI c) := by
  by_cases h : c
  · rw [bI_t h]; rfl
  · rw [bI_f h]; rfl
theorem k_meth {g : GC} {l : Launch} (hlf : l.stackTraces = false) {y : MethodName} {b : ByteArray} {nL : Nat} {r : Option FieldType} {d mc ms : Nat} {av : List Value} {M : HM} {res : Rs} (hy : plainName y.cls = true) (hn : (lg_sl av).length ≤ nL)
    (body : ∀ (p : Program) (e : Env) (s : State) (m : MethodId) (below : List Frame) (meth : Method) (c : Code) (ls : Array Slot), Cx g p l s m av.toArray meth c b nL y.cls → meth.sig.returnType = r → (∀ x ∈ c.exceptionTable.toList, False) → hR g M s.heap → va_S (gA g) s.heap s.heap [] → lv_has ls nL (lv_args 0 av) →
      W p l e (rmOf d mc ms) s m av.toArray below meth c s.heap [] 0 0 (vx_MQ below (KQ g res) (KX g res) av.toArray s mc ms (gA g)) (F0 m 0 ls [])) : KM g l y b nL r d mc ms av M res := by
  refine vx_ofW hy rfl ?_
  intro p e s m args below meth c s₁ B hml hnx hv
  obtain ⟨rfl, hM, hE⟩ := hv
  have hts0 := atoms_spec (ws := Cond.code y b nL r :: lw_all) B.pre
  have hl := lv_entry av (n := nL) hn
  rw [lg_entry_eq]
  exact body p e s m below meth c _ ⟨B.exec, B.bytes, hml, findClass_of_methodNamed B.named, fun w hw => hts0 w (List.mem_cons_of_mem _ hw), hE, B.notSynchronized, hlf⟩ B.returns hnx hM va_S.rf hl
theorem k_ctor {g : GC} {l : Launch} (hlf : l.stackTraces = false) {y : MethodName} {b : ByteArray} {nL : Nat} {d mc ms sz : Nat} {av : List Value} {M : HM} {res : Rs} (hy : plainName y.cls = true) (hn : (lg_sl av).length ≤ nL)
    (body : ∀ (p : Program) (e : Env) (s : State) (m : MethodId) (below : List Frame) (meth : Method) (c : Code) (ls : Array Slot), Cx g p l s m av.toArray meth c b nL y.cls → meth.sig.returnType = none → meth.name = y.name → (∀ x ∈ c.exceptionTable.toList, False) → s.heap.size = sz → hR g M s.heap → va_S (gA g) s.heap s.heap [] → lv_has ls nL (lv_args 0 av) →
      W p l e (rmOf d mc ms) s m av.toArray below meth c s.heap [] 0 0 (vx_MQ below (KQ g res) (KX g res) av.toArray s mc ms (gA g)) (F0 m 0 ls [])) : KN g l y b nL d mc ms av M sz res := by
  refine vx_ofW hy rfl ?_
  intro p e s m args below meth c s₁ B hml hnx hv
  obtain ⟨rfl, ⟨hM, hE⟩, hz⟩ := hv
  have hts0 := atoms_spec (ws := Cond.code y b nL none :: lw_all) B.pre
  have hl := lv_entry av (n := nL) hn
  rw [lg_entry_eq]
  exact body p e s m below meth c _ ⟨B.exec, B.bytes, hml, findClass_of_methodNamed B.named, fun w hw => hts0 w (List.mem_cons_of_mem _ hw), hE, B.notSynchronized, hlf⟩ B.returns (name_of_methodNamed B.named B.method).1 hnx hz hM va_S.rf hl
section KW
variable {p : Program} {l : Launch} {e : Env} {R : Room} {s : State} {m : MethodId} {args : Array Value} {below : List Frame} {meth : Method} {c : Code} {H : Heap} {locs : List Loc} {cells slots : Nat} {Q : State → Prop}
variable {cc : ByteArray} {pc nL : Nat} {ls : Array Slot} {rest st0 : List Value} {g : GC} {M M1 : HM} {own : String} {v : Value}
theorem k_V1 (hc : Cx g p l s m args meth c cc nL own) {C : String} {T : u_T} {N ci b index n d mc ms nLc : Nat} {y : MethodName} {bc : ByteArray} {r : Option FieldType} (As : List Value) {fs : List Value} (hw : CwV own C index n y bc nLc r) (hci : vwCl[ci]? = some (C, T, N)) (hdg : decode cc pc = .ok (.invokevirtual index, 3))
    (hK : KM g l y bc nLc r d mc ms (.ref b :: As) M (.inl (some v, M1))) (he : M b = some (.inr (ci, fs))) (hM : hR g M H) (hS : va_S (gA g) s.heap H locs) (hl : ls.size = nL) (hn : As.length = n) (hst : As.reverse ++ .ref b :: rest = st0) (hroom : d + 1 ≤ R.frames ∧ 8 + (nLc + 11) + 60 * d ≤ R.locals) (hf : cells + mc ≤ R.cells ∧ slots + ms ≤ R.slots) (hW : (rest.map fun v => v.category).sum ≤ 8)
    (kk : ∀ (H1 : Heap) (locs1 : List Loc), hR g M1 H1 → va_S (gA g) s.heap H1 locs1 → W p l e R s m args below meth c H1 locs1 (cells + mc) (slots + ms) Q (F0 m (pc + 3) ls (v :: rest))) : W p l e R s m args below meth c H locs cells slots Q (F0 m pc ls st0) := by
  subst hst
  exact k_goV hc hw hci hdg hK he hM hS hn hl hroom hf hW (fun v2 M2 H1 locs1 hr hM1 hS1 => by cases hr; exact kk H1 locs1 hM1 hS1) (fun _ _ _ _ _ _ hr => by cases hr)
theorem k_V0 (hc : Cx g p l s m args meth c cc nL own) {C : String} {T : u_T} {N ci b index n d mc ms nLc : Nat} {y : MethodName} {bc : ByteArray} {r : Option FieldType} (As : List Value) {fs : List Value} (hw : CwV own C index n y bc nLc r) (hci : vwCl[ci]? = some (C, T, N)) (hdg : decode cc pc = .ok (.invokevirtual index, 3))
    (hK : KM g l y bc nLc r d mc ms (.ref b :: As) M (.inl (none, M1))) (he : M b = some (.inr (ci, fs))) (hM : hR g M H) (hS : va_S (gA g) s.heap H locs) (hl : ls.size = nL) (hn : As.length = n) (hst : As.reverse ++ .ref b :: rest = st0) (hroom : d + 1 ≤ R.frames ∧ 8 + (nLc + 11) + 60 * d ≤ R.locals) (hf : cells + mc ≤ R.cells ∧ slots + ms ≤ R.slots) (hW : (rest.map fun v => v.category).sum ≤ 8)
    (kk : ∀ (H1 : Heap) (locs1 : List Loc), hR g M1 H1 → va_S (gA g) s.heap H1 locs1 → W p l e R s m args below meth c H1 locs1 (cells + mc) (slots + ms) Q (F0 m (pc + 3) ls rest)) : W p l e R s m args below meth c H locs cells slots Q (F0 m pc ls st0) := by
  subst hst
  exact k_goV hc hw hci hdg hK he hM hS hn hl hroom hf hW (fun v2 M2 H1 locs1 hr hM1 hS1 => by cases hr; exact kk H1 locs1 hM1 hS1) (fun _ _ _ _ _ _ hr => by cases hr)
theorem k_VX {E : String} (hc : Cx g p l s m args meth c cc nL own) {C : String} {T : u_T} {N ci b index n d mc ms nLc : Nat} {y : MethodName} {bc : ByteArray} {r : Option FieldType} (As : List Value) {fs : List Value} (hw : CwV own C index n y bc nLc r) (hci : vwCl[ci]? = some (C, T, N)) (hdg : decode cc pc = .ok (.invokevirtual index, 3))
    (hK : KM g l y bc nLc r d mc ms (.ref b :: As) M (.inr (E, M1))) (he : M b = some (.inr (ci, fs))) (hM : hR g M H) (hS : va_S (gA g) s.heap H locs) (hl : ls.size = nL) (hn : As.length = n) (hst : As.reverse ++ .ref b :: rest = st0) (hroom : d + 1 ≤ R.frames ∧ 8 + (nLc + 11) + 60 * d ≤ R.locals) (hf : cells + mc ≤ R.cells ∧ slots + ms ≤ R.slots) (hW : (rest.map fun v => v.category).sum ≤ 8)
    (kx : ∀ (H1 : Heap) (locs1 : List Loc) (q9 : Addr) (ce : Cell), hR g M1 H1 → va_S (gA g) s.heap H1 locs1 → H1[q9]? = some ce → ce.vm = .none → s.vm.findClass E = some ce.cls → vx_W p l e R s m args below meth c H1 locs1 (cells + mc) (slots + ms) Q (F0 m pc ls rest) q9) : W p l e R s m args below meth c H locs cells slots Q (F0 m pc ls st0) := by
  subst hst
  exact k_goV hc hw hci hdg hK he hM hS hn hl hroom hf hW (fun v2 M2 H1 locs1 hr => by cases hr) (fun E2 M2 H1 locs1 q9 ce hr hM1 hS1 h1 h2 h3 => by cases hr; exact kx H1 locs1 q9 ce hM1 hS1 h1 h2 h3)
theorem k_S1 (hc : Cx g p l s m args meth c cc nL own) {index n d mc ms nLc : Nat} {y : MethodName} {bc : ByteArray} {r : Option FieldType} (As : List Value) (hw : CwS own index n y bc nLc r) (hdg : decode cc pc = .ok (.invokestatic index, 3))
    (hK : KM g l y bc nLc r d mc ms As M (.inl (some v, M1))) (hM : hR g M H) (hS : va_S (gA g) s.heap H locs) (hl : ls.size = nL) (hn : As.length = n) (hst : As.reverse ++ rest = st0) (hroom : d + 1 ≤ R.frames ∧ 8 + (nLc + 11) + 60 * d ≤ R.locals) (hf : cells + mc ≤ R.cells ∧ slots + ms ≤ R.slots) (hW : (rest.map fun v => v.category).sum ≤ 8)
    (kk : ∀ (H1 : Heap) (locs1 : List Loc), hR g M1 H1 → va_S (gA g) s.heap H1 locs1 → W p l e R s m args below meth c H1 locs1 (cells + mc) (slots + ms) Q (F0 m (pc + 3) ls (v :: rest))) : W p l e R s m args below meth c H locs cells slots Q (F0 m pc ls st0) := by
  subst hst
  exact k_goS hc hw hdg hK hM hS hn hl hroom hf hW (fun v2 M2 H1 locs1 hr hM1 hS1 => by cases hr; exact kk H1 locs1 hM1 hS1) (fun _ _ _ _ _ _ hr => by cases hr)
theorem k_SN1 (hc : Cx g p l s m args meth c cc nL own) {host : String} {index n d mc ms nLc : Nat} {y : MethodName} {bc : ByteArray} {r : Option FieldType} (As : List Value) (hw : CwSN own host index n y bc nLc r) (hdg : decode cc pc = .ok (.invokestatic index, 3))
    (hK : KM g l y bc nLc r d mc ms As M (.inl (some v, M1))) (hM : hR g M H) (hS : va_S (gA g) s.heap H locs) (hl : ls.size = nL) (hn : As.length = n) (hst : As.reverse ++ rest = st0) (hroom : d + 1 ≤ R.frames ∧ 8 + (nLc + 11) + 60 * d ≤ R.locals) (hf : cells + mc ≤ R.cells ∧ slots + ms ≤ R.slots) (hW : (rest.map fun v => v.category).sum ≤ 8)
    (kk : ∀ (H1 : Heap) (locs1 : List Loc), hR g M1 H1 → va_S (gA g) s.heap H1 locs1 → W p l e R s m args below meth c H1 locs1 (cells + mc) (slots + ms) Q (F0 m (pc + 3) ls (v :: rest))) : W p l e R s m args below meth c H locs cells slots Q (F0 m pc ls st0) := by
  subst hst
  exact k_goSN hc hw hdg hK hM hS hn hl hroom hf hW (fun v2 M2 H1 locs1 hr hM1 hS1 => by cases hr; exact kk H1 locs1 hM1 hS1) (fun _ _ _ _ _ _ hr => by cases hr)
theorem k_min (hc : Cx g p l s m args meth c cc nL own) {index : Nat} (hq : Cond.methodLink own index Lib.Math.min.name ∈ lw_all) {x y : Int32} (hdg : decode cc pc = .ok (.invokestatic index, 3)) (hl : ls.size = nL) (hroom : 1 ≤ R.frames ∧ (rest.map fun v => v.category).sum + 13 ≤ R.locals ∧ cells ≤ R.cells ∧ slots ≤ R.slots)
    (kk : W p l e R s m args below meth c H locs cells slots Q (F0 m (pc + 3) ls (.int (minI x y) :: rest))) : W p l e R s m args below meth c H locs cells slots Q (F0 m pc ls (.int y :: .int x :: rest)) :=
  va_mmin hc.1 hc.2.1 (hc.2.2.1.trans hl.symm) hc.2.2.2.1 (hc.2.2.2.2.1 _ hq) (hc.2.2.2.2.1 _ qt_min) (hc.2.2.2.2.1 _ qn_Math) (hc.2.2.2.2.1 _ qc_min) hroom.1 hroom.2.1 hroom.2.2.1 hroom.2.2.2 hdg kk
theorem k_max (hc : Cx g p l s m args meth c cc nL own) {index : Nat} (hq : Cond.methodLink own index Lib.Math.max.name ∈ lw_all) {x y : Int32} (hdg : decode cc pc = .ok (.invokestatic index, 3)) (hl : ls.size = nL) (hroom : 1 ≤ R.frames ∧ (rest.map fun v => v.category).sum + 13 ≤ R.locals ∧ cells ≤ R.cells ∧ slots ≤ R.slots)
    (kk : W p l e R s m args below meth c H locs cells slots Q (F0 m (pc + 3) ls (.int (maxI x y) :: rest))) : W p l e R s m args below meth c H locs cells slots Q (F0 m pc ls (.int y :: .int x :: rest)) :=
  va_mmax hc.1 hc.2.1 (hc.2.2.1.trans hl.symm) hc.2.2.2.1 (hc.2.2.2.2.1 _ hq) (hc.2.2.2.2.1 _ qt_max) (hc.2.2.2.2.1 _ qn_Math) (hc.2.2.2.2.1 _ qc_max) hroom.1 hroom.2.1 hroom.2.2.1 hroom.2.2.2 hdg kk
theorem k_abs (hc : Cx g p l s m args meth c cc nL own) {index : Nat} (hq : Cond.methodLink own index Lib.Math.abs.name ∈ lw_all) {x : Int32} (hdg : decode cc pc = .ok (.invokestatic index, 3)) (hl : ls.size = nL) (hroom : 1 ≤ R.frames ∧ (rest.map fun v => v.category).sum + 13 ≤ R.locals ∧ cells ≤ R.cells ∧ slots ≤ R.slots)
    (kk : W p l e R s m args below meth c H locs cells slots Q (F0 m (pc + 3) ls (.int (absI x) :: rest))) : W p l e R s m args below meth c H locs cells slots Q (F0 m pc ls (.int x :: rest)) :=
  va_mabs hc.1 hc.2.1 (hc.2.2.1.trans hl.symm) hc.2.2.2.1 (hc.2.2.2.2.1 _ hq) (hc.2.2.2.2.1 _ qt_abs) (hc.2.2.2.2.1 _ qn_Math) (hc.2.2.2.2.1 _ qc_abs) hroom.1 hroom.2.1 hroom.2.2.1 hroom.2.2.2 hdg kk
end KW
theorem k_inc1 (k : Nat) : nI k + Int32.ofInt 1 = nI (k + 1) := nI_1 k
/-- a loop's end, whatever its bound -/
theorem k_le {x : Int32} {k : Nat} (hk : k < 2 ^ 31) : x ≤ nI k ↔ x.toNatClampNeg ≤ k := by
  rw [Int32.le_iff_toInt_le, nI_toInt hk]
  show _ ↔ x.toInt.toNat ≤ k
  omega
theorem k_clamp_lt (x : Int32) : x.toNatClampNeg < 2 ^ 31 := by
  have h := Int32.toInt_lt x
  show x.toInt.toNat < 2 ^ 31
  omega
