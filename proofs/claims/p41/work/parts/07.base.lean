/-! THE FUNCTIONAL HEAP: the cells from the base on, as a function of the address; rows over it -/
abbrev HM : Type := Nat → Option va_E
/-- classes and slots; the classes of int, long, byte, char, Flat arrays; the base; the String constants' addresses (text, bytes) -/
abbrev GC : Type := va_G × (ClassId × ClassId × ClassId × ClassId × ClassId) × Nat × (Nat → Nat) × (Nat → Nat)
abbrev gI (g : GC) : ClassId := g.2.1.1
abbrev gJ (g : GC) : ClassId := g.2.1.2.1
abbrev gD (g : GC) : ClassId := g.2.1.2.2.1
abbrev gC (g : GC) : ClassId := g.2.1.2.2.2.1
abbrev gF (g : GC) : ClassId := g.2.1.2.2.2.2
abbrev gB (g : GC) : Nat := g.2.2.1
abbrev gA (g : GC) : Nat → Prop := fun q => gB g ≤ q
abbrev gT (g : GC) : List (ClassId × FieldType) := [(gI g, .int), (gJ g, .long), (gD g, .byte), (gC g, .char), (gF g, .object RX0)]
/-- the heap holds the cells of M, all from the base on -/
def hR (g : GC) (M : HM) (H : Heap) : Prop := ∀ (q : Nat) (e : va_E), M q = some e → gB g ≤ q ∧ va_at g.1 vwCl (q, e) H
def upM (M : HM) (a : Nat) (e : va_E) : HM := fun q => if q = a then some e else M q
theorem upM_at {M : HM} {a : Nat} {e : va_E} : upM M a e a = some e := by simp [upM]
theorem upM_ne {M : HM} {a q : Nat} {e : va_E} (h : q ≠ a) : upM M a e q = M q := by simp [upM, h]
theorem hR.one {g : GC} {M : HM} {H : Heap} (h : hR g M H) {a : Nat} {e : va_E} (he : M a = some e) : va_P g.1 vwCl [(a, e)] H := by
  intro k q hk
  cases k with
  | zero => cases hk; exact (h a e he).2
  | succ k => simp at hk
theorem hR.low {g : GC} {M : HM} {H : Heap} (h : hR g M H) {a : Nat} {e : va_E} (he : M a = some e) : gB g ≤ a := (h a e he).1
theorem hR.lt {g : GC} {M : HM} {H : Heap} (h : hR g M H) {a : Nat} {e : va_E} (he : M a = some e) : a < H.size := (h a e he).2.lt
theorem hR.put {g : GC} {M : HM} {H H1 : Heap} (h : hR g M H) {a : Nat} {e : va_E} (hb : gB g ≤ a) (he : va_at g.1 vwCl (a, e) H1) (oq : ∀ q : Nat, q ≠ a → H1[q]? = H[q]?) : hR g (upM M a e) H1 := by
  intro q e' hq
  by_cases hqa : q = a
  · subst hqa
    rw [upM_at] at hq
    cases hq
    exact ⟨hb, he⟩
  · rw [upM_ne hqa] at hq
    exact ⟨(h q e' hq).1, (h q e' hq).2.kept (oq q hqa)⟩
/-- what the machine keeps of what was there before: statics, texts, links between nest mates -/
def lw_nk : List Cond := [Cond.methodLinkNest RX5 31 yX4_init "MirageSurvey", Cond.methodLinkNest RX5 38 yX2_init "MirageSurvey", Cond.methodLinkNest RX0 88 yX5_wayTo "MirageSurvey", Cond.methodLinkNest RX0 97 yX5_nearestPlace "MirageSurvey", Cond.methodLinkNest RX0 100 yX5_isPlace "MirageSurvey", Cond.castable "java/lang/UnsupportedOperationException" "java/lang/UnsupportedOperationException", Cond.castable "java/lang/IndexOutOfBoundsException" "java/lang/IndexOutOfBoundsException", Cond.castable "java/lang/IllegalArgumentException" "java/lang/IllegalArgumentException", Cond.castable "java/util/NoSuchElementException" "java/util/NoSuchElementException", Cond.castable "java/lang/IllegalStateException" "java/lang/IllegalStateException", Cond.castable "java/lang/ArithmeticException" "java/lang/ArithmeticException", Cond.declares ⟨"java/lang/RuntimeException", "<init>", "(Ljava/lang/String;)V"⟩, Cond.declares ⟨"java/lang/Exception", "<init>", "(Ljava/lang/String;)V"⟩, Cond.declares ⟨"java/lang/Throwable", "<init>", "(Ljava/lang/String;)V"⟩]
theorem lw_nk_warm {s U : State} (hW : s.WarmedH U.vm) : ∀ w ∈ lw_nk, va_Nw w s → va_Nw w U := by
  intro w hw h
  simp only [lw_nk, List.mem_cons, List.not_mem_nil, or_false] at hw
  rcases hw with rfl | rfl | rfl | rfl | rfl | rfl | rfl | rfl | rfl | rfl | rfl | rfl | rfl | rfl
  · exact va_Nw.warmM hW h
  · exact va_Nw.warmM hW h
  · exact va_Nw.warmM hW h
  · exact va_Nw.warmM hW h
  · exact va_Nw.warmM hW h
  all_goals first | exact va_Nw.warmC hW h | exact va_Nw.warmD hW h
/-- the texts: the class that names them, the entry, the text, and their bytes -/
def lw_tx : List (String × Nat × String) := [(RX4, 72, "s1@1>1"), (RX4, 74, "e1/1"), (RX4, 76, "b2"), (RX4, 78, "t1"), (RX4, 80, "l1"), (RX4, 82, "d1"), (RX4, 84, "w2"), (RX4, 86, ""), (RX5, 286, "blank"), (RL, 286, "q"), (RX5, 346, "refused; reason tells why"), (RX5, 393, "there is no such stake"), (RX5, 395, "there is no such post"), (RX5, 399, "there is no such camel"), (RX5, 155, "no such number of a camel"), (RX5, 397, "there is no such sheet"), (RX5, 168, "the stake is not drawn there"), (RX5, 195, "the stake shimmers from every post"), (RX5, 200, "the stake shimmers all day"), (RX5, 202, "the hours are out of range"), (RX5, 213, "the camel is not lost so soon"), (RX5, 218, "there is no such place"), (RX5, 223, "there are no camels"), (RX5, 231, "the text buffer is full"), (RX5, 247, "the text has a fault"), (RX5, 274, "no such number of a reason"), (RX5, 276, "nothing was refused"), (RX5, 293, "the line has no such index"), (RX5, 310, "nothing is drawn"), (RX5, 332, "no such account"), (RX5, 334, "nothing can be undone"), (RX5, 339, "nothing was saved"), (RL, 291, "w1;w1;w0"), (RL, 252, "w"), (RL, 260, ";b"), (RL, 266, "d"), (RL, 268, ";s"), (RL, 270, "@"), (RL, 272, ">")]
def lw_by : List (List Int32) := [[115, 49, 64, 49, 62, 49], [101, 49, 47, 49], [98, 50], [116, 49], [108, 49], [100, 49], [119, 50], [], [98, 108, 97, 110, 107], [113], [114, 101, 102, 117, 115, 101, 100, 59, 32, 114, 101, 97, 115, 111, 110, 32, 116, 101, 108, 108, 115, 32, 119, 104, 121], [116, 104, 101, 114, 101, 32, 105, 115, 32, 110, 111, 32, 115, 117, 99, 104, 32, 115, 116, 97, 107, 101], [116, 104, 101, 114, 101, 32, 105, 115, 32, 110, 111, 32, 115, 117, 99, 104, 32, 112, 111, 115, 116], [116, 104, 101, 114, 101, 32, 105, 115, 32, 110, 111, 32, 115, 117, 99, 104, 32, 99, 97, 109, 101, 108], [110, 111, 32, 115, 117, 99, 104, 32, 110, 117, 109, 98, 101, 114, 32, 111, 102, 32, 97, 32, 99, 97, 109, 101, 108], [116, 104, 101, 114, 101, 32, 105, 115, 32, 110, 111, 32, 115, 117, 99, 104, 32, 115, 104, 101, 101, 116], [116, 104, 101, 32, 115, 116, 97, 107, 101, 32, 105, 115, 32, 110, 111, 116, 32, 100, 114, 97, 119, 110, 32, 116, 104, 101, 114, 101], [116, 104, 101, 32, 115, 116, 97, 107, 101, 32, 115, 104, 105, 109, 109, 101, 114, 115, 32, 102, 114, 111, 109, 32, 101, 118, 101, 114, 121, 32, 112, 111, 115, 116], [116, 104, 101, 32, 115, 116, 97, 107, 101, 32, 115, 104, 105, 109, 109, 101, 114, 115, 32, 97, 108, 108, 32, 100, 97, 121], [116, 104, 101, 32, 104, 111, 117, 114, 115, 32, 97, 114, 101, 32, 111, 117, 116, 32, 111, 102, 32, 114, 97, 110, 103, 101], [116, 104, 101, 32, 99, 97, 109, 101, 108, 32, 105, 115, 32, 110, 111, 116, 32, 108, 111, 115, 116, 32, 115, 111, 32, 115, 111, 111, 110], [116, 104, 101, 114, 101, 32, 105, 115, 32, 110, 111, 32, 115, 117, 99, 104, 32, 112, 108, 97, 99, 101], [116, 104, 101, 114, 101, 32, 97, 114, 101, 32, 110, 111, 32, 99, 97, 109, 101, 108, 115], [116, 104, 101, 32, 116, 101, 120, 116, 32, 98, 117, 102, 102, 101, 114, 32, 105, 115, 32, 102, 117, 108, 108], [116, 104, 101, 32, 116, 101, 120, 116, 32, 104, 97, 115, 32, 97, 32, 102, 97, 117, 108, 116], [110, 111, 32, 115, 117, 99, 104, 32, 110, 117, 109, 98, 101, 114, 32, 111, 102, 32, 97, 32, 114, 101, 97, 115, 111, 110], [110, 111, 116, 104, 105, 110, 103, 32, 119, 97, 115, 32, 114, 101, 102, 117, 115, 101, 100], [116, 104, 101, 32, 108, 105, 110, 101, 32, 104, 97, 115, 32, 110, 111, 32, 115, 117, 99, 104, 32, 105, 110, 100, 101, 120], [110, 111, 116, 104, 105, 110, 103, 32, 105, 115, 32, 100, 114, 97, 119, 110], [110, 111, 32, 115, 117, 99, 104, 32, 97, 99, 99, 111, 117, 110, 116], [110, 111, 116, 104, 105, 110, 103, 32, 99, 97, 110, 32, 98, 101, 32, 117, 110, 100, 111, 110, 101], [110, 111, 116, 104, 105, 110, 103, 32, 119, 97, 115, 32, 115, 97, 118, 101, 100], [119, 49, 59, 119, 49, 59, 119, 48], [119], [59, 98], [100], [59, 115], [64], [62]]
/-- classes of exceptions of which the one is no kind of the other -/
def lw_nc : List (String × String) := [("java/lang/IllegalArgumentException", "java/lang/IndexOutOfBoundsException"), ("java/util/NoSuchElementException", "java/lang/IndexOutOfBoundsException"), ("java/util/NoSuchElementException", "java/lang/IllegalArgumentException"), ("java/lang/UnsupportedOperationException", "java/lang/IllegalArgumentException")]
/-- the script: its cell, its length, its ints -/
abbrev gSb (g : GC) : Nat := g.2.2.2.2 1000
abbrev gSL (g : GC) : Nat := g.2.2.2.2 1001
abbrev gSx (g : GC) : Nat → Int32 := fun k => Int32.ofNat (g.2.2.2.2 (1002 + k))
def hSC (g : GC) (U : State) (H : Heap) : Prop := va_X (gSb g) (gSL g) (gSx g) U H ∧ gSb g < H.size ∧ ¬ gA g (gSb g) ∧ gSL g ≤ 260
/-- the builder's private methods -/
def sbPr : List MethodName := [yJ5_ensureCapacityInternal_d00df, yJ5_putStringAt_47b60, yJ5_inflateIfNeededFor_a7421]
def hPV (U : State) : Prop := ∀ y ∈ sbPr, (Cond.privateMethod y).before #[] U = true
theorem hPV.go {s U : State} (h : hPV s) (hal : s.vm.Alike U.vm) : hPV U := by
  intro y hy
  have h1 := h y hy
  have e1 : U.methodNamed? y = s.methodNamed? y := by rw [State.methodNamed?_of_vm (show U.vm = (s.setVm U.vm).vm from rfl), State.methodNamed?_setVm hal]
  have e2 : U.vm.method? = s.vm.method? := funext hal.method?
  simp only [Cond.before, Cond.holds, Cond.value] at h1 ⊢
  rw [e1, e2]
  exact h1
/-- Integer's two tables of digits; the private methods -/
def hDG (g : GC) (U : State) : Prop := hPV U ∧ ∃ (ist d1 d2 : Addr) (D1 D2 : Cell), Jvm.Free.SBG.Tbl U "DigitOnes" ist d1 D1 ∧ Jvm.Free.SBG.Tbl U "DigitTens" ist d2 D2 ∧ (¬ gA g ist ∧ ¬ gA g d1 ∧ ¬ gA g d2) ∧ ist < U.heap.size ∧ d1 < U.heap.size ∧ d2 < U.heap.size
theorem tb_D {U : State} {n : String} {st d : Addr} {D : Cell} (h : Jvm.Free.SBG.Tbl U n st d D) : U.heap[d]? = some D := by
  obtain ⟨_, _, _, _, _, _, _, _, _, _, _, _, h8, _⟩ := h
  exact h8
theorem hDG.go {g : GC} {s U : State} (h : hDG g s) (hal : s.vm.Alike U.vm) (hz : s.heap.size ≤ U.heap.size) (hq : ∀ a : Nat, a < s.heap.size → ¬ gA g a → U.heap[a]? = s.heap[a]?) : hDG g U := by
  obtain ⟨hp, ist, d1, d2, D1, D2, t1, t2, ⟨n0, n1, n2⟩, l0, l1, l2⟩ := h
  exact ⟨hp.go hal, ist, d1, d2, D1, D2, t1.move hal (fun c hc => by rw [hq ist l0 n0]; exact hc) (by rw [hq d1 l1 n1]; exact tb_D t1), t2.move hal (fun c hc => by rw [hq ist l0 n0]; exact hc) (by rw [hq d2 l2 n2]; exact tb_D t2), ⟨n0, n1, n2⟩, Nat.lt_of_lt_of_le l0 hz, Nat.lt_of_lt_of_le l1 hz, Nat.lt_of_lt_of_le l2 hz⟩
def hO (g : GC) (U : State) (H : Heap) : Prop :=
  vx_Zq Bundle.tN "UNASSIGNED_STACK" Bundle.steD (gA g) U H ∧ vx_Zq Bundle.tN "SUPPRESSED_SENTINEL" Bundle.listD (gA g) U H ∧ (∀ w ∈ lw_nk, va_Nw w U) ∧
  (∀ (i : Nat) (x : String × Nat × String), lw_tx[i]? = some x → vk_R x.1 x.2.1 x.2.2 (g.2.2.2.1 i) U) ∧
  (∀ (i : Nat) (b : List Int32), lw_by[i]? = some b → vk_S 1 [b.length] [b] (fun _ => g.2.2.2.1 i) (fun _ => g.2.2.2.2 i) (gA g) U H) ∧ va_AO RX0 U ∧ va_Z "java/lang/String" "COMPACT_STRINGS" "Z" (.int 1) (gA g) U H ∧ va_Zq "jdk/internal/util/Preconditions" "SIOOBE_FORMATTER" "Ljava/util/function/BiFunction;" (gA g) U H ∧ (∀ q ∈ lw_nc, va_Nc q.1 q.2 U) ∧ hSC g U H ∧ hDG g U
def hE (g : GC) (U : State) : Prop := va_K g.1 vwCl (gT g) U ∧ gB g ≤ U.heap.size ∧ hO g U U.heap
theorem hE.go {g : GC} {s U : State} {locs : List Loc} (h : hE g s) (hS : va_S (gA g) s.heap U.heap locs) (hW : s.WarmedH U.vm) : hE g U := by
  obtain ⟨h1, h2, z1, z2, h3, h4, h5, h6, h7, h8, h9, ⟨x1, x2, x3, x4⟩, h11⟩ := h
  have hq : ∀ a : Nat, a < s.heap.size → ¬ gA g a → U.heap[a]? = s.heap[a]? := hS.2.1
  exact ⟨va_K.moved hW.alike h1, Nat.le_trans h2 hS.1, (z1.moved hW.alike).kept hq, (z2.moved hW.alike).kept hq, fun w hw => lw_nk_warm hW w hw (h3 w hw), fun i x hx => (h4 i x hx).warm hW, fun i b hb => ((h5 i b hb).moved hW.alike).kept hq, h6.moved hW.alike, (h7.moved hW.alike).kept hq, (h8.moved hW.alike).kept hq, fun q hq => (h9 q hq).moved hW.alike, ⟨(x1.moved hW.alike).kept (hq _ x2 x3), Nat.lt_of_lt_of_le x2 hS.1, x3, x4⟩, h11.go hW.alike hS.1 hq⟩
theorem hE.calling {g : GC} {U : State} {f : JFrame} {mk : MethodId} {a : Array Value} (h : hE g U) : hE g (U.calling f mk a) := by
  obtain ⟨h1, h2, z1, z2, h3, h4, h5, h6, h7, h8, h9, ⟨x1, x2, x3, x4⟩, h11⟩ := h
  exact ⟨va_K.moved (u := U) (U := U.calling f mk a) (Vm.Alike.refl U.vm) h1, h2, vx_Zq.moved (u := U) (U := U.calling f mk a) (Vm.Alike.refl U.vm) z1, vx_Zq.moved (u := U) (U := U.calling f mk a) (Vm.Alike.refl U.vm) z2, fun w hw => va_tabs (by
    have : ∀ w ∈ lw_nk, w.onTables = true := by decide +kernel
    exact this w hw) (rfl : U.vm = (U.calling f mk a).vm) (h3 w hw), fun i x hx => vk_R.same (u := U) (U := U.calling f mk a) rfl (h4 i x hx), fun i b hb => vk_S.moved (u := U) (U := U.calling f mk a) (Vm.Alike.refl U.vm) (h5 i b hb), va_AO.moved (u := U) (U := U.calling f mk a) (Vm.Alike.refl U.vm) h6, va_Z.moved (u := U) (U := U.calling f mk a) (Vm.Alike.refl U.vm) h7, va_Zq.moved (u := U) (U := U.calling f mk a) (Vm.Alike.refl U.vm) h8, fun q hq => va_Nc.moved (u := U) (U := U.calling f mk a) (Vm.Alike.refl U.vm) (h9 q hq), ⟨va_X.moved (u := U) (U := U.calling f mk a) (Vm.Alike.refl U.vm) x1, x2, x3, x4⟩, hDG.go (s := U) (U := U.calling f mk a) h11 (Vm.Alike.refl U.vm) (Nat.le_refl _) (fun _ _ _ => rfl)⟩
/-- a method's end: what it returns or throws, and the heap -/
abbrev Rs : Type := (Option Value × HM) ⊕ (String × HM)
def KP (g : GC) (M : HM) (av : List Value) : Array Value → State → Prop := va_Pc av (fun U => hR g M U.heap ∧ hE g U)
def KQ (g : GC) (res : Rs) : Array Value → State → Outcome → State → Prop := fun _ st o t => ∃ (v : Option Value) (M : HM), res = .inl (v, M) ∧ o = .returned v ∧ hR g M t.heap ∧ va_F (gA g) st t
def KX (g : GC) (res : Rs) : String → State → State → Prop := fun E st t => ∃ M : HM, res = .inr (E, M) ∧ hR g M t.heap ∧ va_F (gA g) st t
def rmOf (d mc ms : Nat) : Room := { frames := d, cells := mc, slots := ms, locals := 60 * d }
def KM (g : GC) (l : Launch) (y : MethodName) (b : ByteArray) (nL : Nat) (r : Option FieldType) (d mc ms : Nat) (av : List Value) (M : HM) (res : Rs) : Prop :=
  vx_Met l y (Cond.code y b nL r :: lw_all) (rmOf d mc ms) (KP g M av) (KQ g res) (KX g res) mc ms (gA g)
theorem KP.blind {g : GC} {M : HM} {av : List Value} : FrameBlind (KP g M av) := fun a U f mk h => ⟨h.1, h.2.1, h.2.2.calling⟩
/-- what a walk has at hand -/
def Cx (g : GC) (p : Program) (l : Launch) (s : State) (m : MethodId) (args : Array Value) (meth : Method) (c : Code) (cc : ByteArray) (nL : Nat) (own : String) : Prop :=
  p.tables.exec = Jvm.exec ∧ c.code = cc ∧ c.maxLocals = nL ∧ s.vm.findClass own = some m.cls ∧ (∀ w ∈ lw_all, w.before args s = true) ∧ hE g s ∧ meth.locks = false ∧ l.stackTraces = false
theorem lw_gV {own C : String} {index n : Nat} {y : MethodName} {b : ByteArray} {r : Option FieldType} (h1 : Cond.methodLink own index y ∈ lw_all) (h2 : Cond.instanceMethod y ∈ lw_all) (h3 : Cond.selects C y y ∈ lw_all) (h4 : Cond.initialized C ∈ lw_all) (h5 : Cond.code y b n r ∈ lw_all) : GoodIn lw_all (wsV own index C y (Cond.code y b n r :: lw_all)) := by
  intro w hw
  have hm : w ∈ lw_all := by
    simp only [wsV, List.mem_append, List.mem_cons, List.not_mem_nil, or_false] at hw
    rcases hw with (rfl | rfl | rfl | rfl) | rfl | h
    all_goals assumption
  exact ⟨hm, lw_all_good hm⟩
theorem lw_gS {own : String} {index n : Nat} {y : MethodName} {b : ByteArray} {r : Option FieldType} (h1 : Cond.methodLink own index y ∈ lw_all) (h2 : Cond.static y ∈ lw_all) (h4 : Cond.initialized y.cls ∈ lw_all) (h5 : Cond.code y b n r ∈ lw_all) : GoodIn lw_all (va_wsS own index y (Cond.code y b n r :: lw_all)) := by
  intro w hw
  have hm : w ∈ lw_all := by
    simp only [va_wsS, List.mem_append, List.mem_cons, List.not_mem_nil, or_false] at hw
    rcases hw with (rfl | rfl | rfl) | rfl | h
    all_goals assumption
  exact ⟨hm, lw_all_good hm⟩
theorem lw_gI {n : Nat} {y : MethodName} {b : ByteArray} {r : Option FieldType} (h5 : Cond.code y b n r ∈ lw_all) : GoodIn lw_all (Cond.code y b n r :: lw_all) := by
  intro w hw
  have hm : w ∈ lw_all := by
    rcases List.mem_cons.mp hw with rfl | h
    all_goals assumption
  exact ⟨hm, lw_all_good hm⟩
section KR
variable {p : Program} {l : Launch} {e : Env} {R : Room} {s : State} {m : MethodId} {args : Array Value} {below : List Frame} {meth : Method} {c : Code} {H : Heap} {locs : List Loc} {cells slots : Nat} {Q : State → Prop}
variable {cc : ByteArray} {pc nL : Nat} {ls : Array Slot} {rest : List Value} {g : GC} {M : HM} {own : String} {a : Nat}
theorem Cx.pre (hc : Cx g p l s m args meth c cc nL own) (hM : hR g M H) (hS : va_S (gA g) s.heap H locs) {av : List Value} : ∀ U : State, U.heap = H → s.WarmedH U.vm → KP g M av av.toArray U := by
  intro U hU hW
  subst hU
  exact ⟨rfl, hM, hc.2.2.2.2.2.1.go hS hW⟩
/-- a field is read -/
theorem k_get (hc : Cx g p l s m args meth c cc nL own) {ref C : String} {T : u_T} {N ci index : Nat} (hin : ∀ w ∈ u_ws C T N, w ∈ lw_all) (hci : vwCl[ci]? = some (C, T, N)) (k : Nat) (hk : k < N) (hlink : Cond.fieldLink own index ref (T k).2.1 (T k).2.2.1 ∈ lw_all) (hsame : (T k).1 = ref) (hdg : decode cc pc = .ok (.getfield index, 3))
    (hM : hR g M H) {fs : List Value} (he : M a = some (.inr (ci, fs))) {v : Value} (hv : fs[k]? = some v)
    (kk : W p l e R s m args below meth c H locs cells slots Q (F0 m (pc + 3) ls (v :: rest))) : W p l e R s m args below meth c H locs cells slots Q (F0 m pc ls (.ref a :: rest)) := by
  subst hsame
  exact va_get hc.1 hc.2.1 hc.2.2.2.2.1 hin hc.2.2.2.1 hc.2.2.2.2.2.1.1 (hM.one he) 0 rfl hci k hk (hc.2.2.2.2.1 _ hlink) (fun _ h => h) hv hdg kk
/-- a field is written -/
theorem k_put (hc : Cx g p l s m args meth c cc nL own) {ref C : String} {T : u_T} {N ci index : Nat} (hin : ∀ w ∈ u_ws C T N, w ∈ lw_all) (ty0 : Nat → FieldType) (hty : ∀ k, k < N → parseFieldDescriptor (T k).2.2.1 = some (ty0 k)) (hnm : ∀ a, a < N → ∀ b, b < N → a ≠ b → (T a).2.1 ≠ (T b).2.1) (hci : vwCl[ci]? = some (C, T, N)) (k : Nat) (hk : k < N) (hlink : Cond.fieldLink own index ref (T k).2.1 (T k).2.2.1 ∈ lw_all) (hsame : (T k).1 = ref) (hfin : (T k).2.2.2 = false) (hdg : decode cc pc = .ok (.putfield index, 3))
    (hM : hR g M H) (hS : va_S (gA g) s.heap H locs) {fs : List Value} (he : M a = some (.inr (ci, fs))) {v : Value} (hn : narrow (ty0 k) v = v) (hfit : fits (ty0 k) v = true) (hl : k < fs.length)
    (kk : ∀ (H1 : Heap) (locs1 : List Loc), hR g (upM M a (.inr (ci, fs.set k v))) H1 → va_S (gA g) s.heap H1 locs1 → W p l e R s m args below meth c H1 locs1 cells slots Q (F0 m (pc + 3) ls rest)) : W p l e R s m args below meth c H locs cells slots Q (F0 m pc ls (v :: .ref a :: rest)) := by
  subst hsame
  obtain ⟨hexec, hb, hml, hown, hts, hE, hlk, hst0⟩ := hc
  have hK := hE.1
  have hap := va_apart (own := own) hts hin ty0 hty hnm hK hci
  obtain ⟨r, h1, cell, q1, q2, q3, q4⟩ := (hM a _ he).2
  have hr : r = (C, T, N) := Option.some.inj (h1.symm.trans hci)
  subst hr
  obtain ⟨hSl, hfc, kC, hkC, hkind⟩ := hK.1 ci _ hci
  obtain ⟨cf, kf, fi, f, hi, hsl⟩ := hSl k hk
  have hlay := hts _ (hin _ (u_in_lay hk))
  unfold u_lay at hlay
  rw [if_neg (by rw [hfin]; decide)] at hlay
  have hst := (u_facts hfc hkC (u_lays hts hin hk) hi).1
  have h6 := u_store hfc hkC hkind hlay hi (hty k hk) hn hfit
  refine W.putK hexec hb (f := f) ⟨hown, hts _ hlink, ⟨_, _, _, hi⟩, hst⟩ (by rw [q2]; exact h6) q1 q3 (by rw [hsl]; exact k2_hasslot (q4 k hk)) rfl rfl hdg fun H' e1 e2 e3 => ?_
  rw [hsl] at e1 ⊢
  exact kk H' _ (hM.put (hM.low he) ⟨_, hci, t_OB.to (V := updV (vp_V fs) k v) ⟨_, e1, q2, q3, t_set q4 hap hk v⟩ (fun j _ => vp_updV_set hl v j)⟩ e3) (hS.put e2 e3 (hM.low he))
/-- a final field is written in its constructor -/
theorem k_putF (hc : Cx g p l s m args meth c cc nL own) (hin2 : meth.name = "<init>") {ref C : String} {T : u_T} {N ci index : Nat} (hin : ∀ w ∈ u_ws C T N, w ∈ lw_all) (ty0 : Nat → FieldType) (hty : ∀ k, k < N → parseFieldDescriptor (T k).2.2.1 = some (ty0 k)) (hnm : ∀ a, a < N → ∀ b, b < N → a ≠ b → (T a).2.1 ≠ (T b).2.1) (hci : vwCl[ci]? = some (C, T, N)) (k : Nat) (hk : k < N) (hlink : Cond.fieldLink own index ref (T k).2.1 (T k).2.2.1 ∈ lw_all) (hsame : (T k).1 = ref) (hfin : (T k).2.2.2 = true) (hdecl : (T k).1 = own) (hdg : decode cc pc = .ok (.putfield index, 3))
    (hM : hR g M H) (hS : va_S (gA g) s.heap H locs) {fs : List Value} (he : M a = some (.inr (ci, fs))) {v : Value} (hn : narrow (ty0 k) v = v) (hfit : fits (ty0 k) v = true) (hl : k < fs.length)
    (kk : ∀ (H1 : Heap) (locs1 : List Loc), hR g (upM M a (.inr (ci, fs.set k v))) H1 → va_S (gA g) s.heap H1 locs1 → W p l e R s m args below meth c H1 locs1 cells slots Q (F0 m (pc + 3) ls rest)) : W p l e R s m args below meth c H locs cells slots Q (F0 m pc ls (v :: .ref a :: rest)) := by
  subst hsame
  obtain ⟨hexec, hb, hml, hown, hts, hE, hlk, hst0⟩ := hc
  have hK := hE.1
  have hap := va_apart (own := own) hts hin ty0 hty hnm hK hci
  obtain ⟨r, h1, cell, q1, q2, q3, q4⟩ := (hM a _ he).2
  have hr : r = (C, T, N) := Option.some.inj (h1.symm.trans hci)
  subst hr
  obtain ⟨hSl, hfc, kC, hkC, hkind⟩ := hK.1 ci _ hci
  obtain ⟨cf, kf, fi, f, hi, hsl⟩ := hSl k hk
  have hlay := hts _ (hin _ (u_in_lay hk))
  unfold u_lay at hlay
  rw [if_pos hfin] at hlay
  have hst := (u_facts hfc hkC (u_lays hts hin hk) hi).1
  have hcf : m.cls = cf := by
    obtain ⟨_, _, c', _, _, _, -, -, hf', -, -, -, hown2, -⟩ := Cond.laysFinal_spec hlay
    have e1 : c' = cf := by have := hi.symm.trans hf'; simp at this; exact this.1.symm
    rw [hdecl] at hown2
    rw [← e1]; exact Option.some.inj (hown.symm.trans hown2)
  have h6 := u_fits hfc hkC hkind (Or.inr hlay) hi (hty k hk) hn hfit
  refine W.putFinK hexec hb hown (hts _ hlink) hi hst hcf hin2 (by rw [q2]; exact h6) q1 q3 (by rw [hsl]; exact k2_hasslot (q4 k hk)) rfl rfl hdg fun H' e1 e2 e3 => ?_
  rw [hsl] at e1 ⊢
  exact kk H' _ (hM.put (hM.low he) ⟨_, hci, t_OB.to (V := updV (vp_V fs) k v) ⟨_, e1, q2, q3, t_set q4 hap hk v⟩ (fun j _ => vp_updV_set hl v j)⟩ e3) (hS.put e2 e3 (hM.low he))
theorem k_iald (hc : Cx g p l s m args meth c cc nL own) (hM : hR g M H) {n : Nat} {f : Nat → Int32} (he : M a = some (.inl (gI g, n, .inl f))) {i : Int32} (hin : vp_in i n) (hdg : decode cc pc = .ok (.iaload, 1))
    (kk : W p l e R s m args below meth c H locs cells slots Q (F0 m (pc + 1) ls (.int (f i.toNatClampNeg) :: rest))) : W p l e R s m args below meth c H locs cells slots Q (F0 m pc ls (.int i :: .ref a :: rest)) :=
  va_iald hc.1 hc.2.1 hc.2.2.2.2.2.1.1 (hM.one he) 0 0 rfl rfl hin hdg kk
theorem k_cald (hc : Cx g p l s m args meth c cc nL own) (hM : hR g M H) {n : Nat} {f : Nat → Int32} (he : M a = some (.inl (gC g, n, .inl f))) {i : Int32} (hin : vp_in i n) (hdg : decode cc pc = .ok (.caload, 1))
    (kk : W p l e R s m args below meth c H locs cells slots Q (F0 m (pc + 1) ls (.int (f i.toNatClampNeg) :: rest))) : W p l e R s m args below meth c H locs cells slots Q (F0 m pc ls (.int i :: .ref a :: rest)) :=
  va_cald hc.1 hc.2.1 hc.2.2.2.2.2.1.1 (hM.one he) 0 3 rfl rfl hin hdg kk
theorem k_lald (hc : Cx g p l s m args meth c cc nL own) (hM : hR g M H) {n : Nat} {f : Nat → Int64} (he : M a = some (.inl (gJ g, n, .inr (.inl f)))) {i : Int32} (hin : vp_in i n) (hdg : decode cc pc = .ok (.laload, 1))
    (kk : W p l e R s m args below meth c H locs cells slots Q (F0 m (pc + 1) ls (.long (f i.toNatClampNeg) :: rest))) : W p l e R s m args below meth c H locs cells slots Q (F0 m pc ls (.int i :: .ref a :: rest)) :=
  va_lald hc.1 hc.2.1 hc.2.2.2.2.2.1.1 (hM.one he) 0 1 rfl rfl hin hdg kk
theorem k_aald (hc : Cx g p l s m args meth c cc nL own) (hM : hR g M H) {n : Nat} {f : Nat → Option Nat} (he : M a = some (.inl (gF g, n, .inr (.inr (.inr (.inr f)))))) {i : Int32} (hin : vp_in i n) (hdg : decode cc pc = .ok (.aaload, 1))
    (kk : W p l e R s m args below meth c H locs cells slots Q (F0 m (pc + 1) ls (va_rf (f i.toNatClampNeg) :: rest))) : W p l e R s m args below meth c H locs cells slots Q (F0 m pc ls (.int i :: .ref a :: rest)) :=
  va_aldq hc.1 hc.2.1 hc.2.2.2.2.2.1.1 (hM.one he) 0 4 rfl rfl hin hdg kk
theorem k_alenI (hc : Cx g p l s m args meth c cc nL own) (hM : hR g M H) {n : Nat} {f : Nat → Int32} (he : M a = some (.inl (gI g, n, .inl f))) (hdg : decode cc pc = .ok (.arraylength, 1))
    (kk : W p l e R s m args below meth c H locs cells slots Q (F0 m (pc + 1) ls (.int (nI n) :: rest))) : W p l e R s m args below meth c H locs cells slots Q (F0 m pc ls (.ref a :: rest)) :=
  va_alen hc.1 hc.2.1 hc.2.2.2.2.2.1.1 (hM.one he) 0 0 rfl rfl rfl hdg kk
theorem k_alenC (hc : Cx g p l s m args meth c cc nL own) (hM : hR g M H) {n : Nat} {f : Nat → Int32} (he : M a = some (.inl (gC g, n, .inl f))) (hdg : decode cc pc = .ok (.arraylength, 1))
    (kk : W p l e R s m args below meth c H locs cells slots Q (F0 m (pc + 1) ls (.int (nI n) :: rest))) : W p l e R s m args below meth c H locs cells slots Q (F0 m pc ls (.ref a :: rest)) :=
  va_alen hc.1 hc.2.1 hc.2.2.2.2.2.1.1 (hM.one he) 0 3 rfl rfl rfl hdg kk
theorem k_alenF (hc : Cx g p l s m args meth c cc nL own) (hM : hR g M H) {n : Nat} {f : Nat → Option Nat} (he : M a = some (.inl (gF g, n, .inr (.inr (.inr (.inr f)))))) (hdg : decode cc pc = .ok (.arraylength, 1))
    (kk : W p l e R s m args below meth c H locs cells slots Q (F0 m (pc + 1) ls (.int (nI n) :: rest))) : W p l e R s m args below meth c H locs cells slots Q (F0 m pc ls (.ref a :: rest)) :=
  va_alen hc.1 hc.2.1 hc.2.2.2.2.2.1.1 (hM.one he) 0 4 rfl rfl rfl hdg kk
theorem k_iast (hc : Cx g p l s m args meth c cc nL own) (hM : hR g M H) (hS : va_S (gA g) s.heap H locs) {n : Nat} {f : Nat → Int32} (he : M a = some (.inl (gI g, n, .inl f))) {i x : Int32} (hin : vp_in i n) (hdg : decode cc pc = .ok (.iastore, 1))
    (kk : ∀ (H1 : Heap) (locs1 : List Loc), hR g (upM M a (.inl (gI g, n, .inl (upd f i.toNatClampNeg x)))) H1 → va_S (gA g) s.heap H1 locs1 → W p l e R s m args below meth c H1 locs1 cells slots Q (F0 m (pc + 1) ls rest)) : W p l e R s m args below meth c H locs cells slots Q (F0 m pc ls (.int x :: .int i :: .ref a :: rest)) := by
  have hK := hc.2.2.2.2.2.1.1
  refine W.iast hc.1 hc.2.1 (hM a _ he).2 ((hK.2 0 _ rfl).1 n (fun j => .int (f j))) (fun q => by cases q) (by show ¬ (i < 0 ∨ (arrV _ _ _).slots.size ≤ _); rw [arrV_size]; exact hin) rfl rfl hdg fun H1 e z oq => ?_
  refine kk H1 _ (hM.put (hM.low he) ?_ oq) (hS.put z oq (hM.low he))
  show H1[a]? = some (vp_cell _ _)
  rw [e]
  rw [vp_cell_i, vp_cell_i, arrV_store]
  congr 2
  funext q
  by_cases hq : q = i.toNatClampNeg
  · subst hq
    simp [updV, upd]
  · simp [updV, upd, hq]
theorem k_cast (hc : Cx g p l s m args meth c cc nL own) (hM : hR g M H) (hS : va_S (gA g) s.heap H locs) {n : Nat} {f : Nat → Int32} (he : M a = some (.inl (gC g, n, .inl f))) {i x : Int32} (hx : vp_nar .char x = x) (hin : vp_in i n) (hdg : decode cc pc = .ok (.castore, 1))
    (kk : ∀ (H1 : Heap) (locs1 : List Loc), hR g (upM M a (.inl (gC g, n, .inl (upd f i.toNatClampNeg x)))) H1 → va_S (gA g) s.heap H1 locs1 → W p l e R s m args below meth c H1 locs1 cells slots Q (F0 m (pc + 1) ls rest)) : W p l e R s m args below meth c H locs cells slots Q (F0 m pc ls (.int x :: .int i :: .ref a :: rest)) := by
  have hK := hc.2.2.2.2.2.1.1
  refine W.cast hc.1 hc.2.1 (hM a _ he).2 ((hK.2 3 _ rfl).1 n (fun j => .int (f j))) (fun q => by cases q) (by show ¬ (i < 0 ∨ (arrV _ _ _).slots.size ≤ _); rw [arrV_size]; exact hin) rfl rfl hdg fun H1 e z oq => ?_
  refine kk H1 _ (hM.put (hM.low he) ?_ oq) (hS.put z oq (hM.low he))
  show H1[a]? = some (vp_cell _ _)
  rw [← hx, e]
  rw [vp_cell_i, vp_cell_i, arrV_store]
  congr 2
  funext q
  by_cases hq : q = i.toNatClampNeg
  · subst hq
    simp [updV, upd, vp_nar]
    try rfl
  · simp [updV, upd, hq]
theorem k_last (hc : Cx g p l s m args meth c cc nL own) (hM : hR g M H) (hS : va_S (gA g) s.heap H locs) {n : Nat} {f : Nat → Int64} (he : M a = some (.inl (gJ g, n, .inr (.inl f)))) {i : Int32} {x : Int64} (hin : vp_in i n) (hdg : decode cc pc = .ok (.lastore, 1))
    (kk : ∀ (H1 : Heap) (locs1 : List Loc), hR g (upM M a (.inl (gJ g, n, .inr (.inl (vp_updL f i.toNatClampNeg x))))) H1 → va_S (gA g) s.heap H1 locs1 → W p l e R s m args below meth c H1 locs1 cells slots Q (F0 m (pc + 1) ls rest)) : W p l e R s m args below meth c H locs cells slots Q (F0 m pc ls (.long x :: .int i :: .ref a :: rest)) := by
  have hK := hc.2.2.2.2.2.1.1
  refine W.last hc.1 hc.2.1 (hM a _ he).2 ((hK.2 1 _ rfl).1 n (fun j => .long (f j))) (fun q => by cases q) (by show ¬ (i < 0 ∨ (arrV _ _ _).slots.size ≤ _); rw [arrV_size]; exact hin) rfl rfl hdg fun H1 e z oq => ?_
  refine kk H1 _ (hM.put (hM.low he) ?_ oq) (hS.put z oq (hM.low he))
  show H1[a]? = some (vp_cell _ _)
  rw [e]
  rw [vp_cell_l, vp_cell_l, arrV_store]
  congr 2
  funext q
  by_cases hq : q = i.toNatClampNeg
  · subst hq
    simp [updV, vp_updL]
  · simp [updV, vp_updL, hq]
theorem k_aast (hc : Cx g p l s m args meth c cc nL own) (hM : hR g M H) (hS : va_S (gA g) s.heap H locs) {n v : Nat} {vs : List Value} {f : Nat → Option Nat} (he : M a = some (.inl (gF g, n, .inr (.inr (.inr (.inr f)))))) (hv : M v = some (.inr (2, vs))) {i : Int32} (hin : vp_in i n) (hdg : decode cc pc = .ok (.aastore, 1))
    (kk : ∀ (H1 : Heap) (locs1 : List Loc), hR g (upM M a (.inl (gF g, n, .inr (.inr (.inr (.inr (va_up f i.toNatClampNeg (some v)))))))) H1 → va_S (gA g) s.heap H1 locs1 → W p l e R s m args below meth c H1 locs1 cells slots Q (F0 m (pc + 1) ls rest)) : W p l e R s m args below meth c H locs cells slots Q (F0 m pc ls (.ref v :: .int i :: .ref a :: rest)) := by
  have hK := hc.2.2.2.2.2.1.1
  have hlt : i.toNatClampNeg < n := Nat.not_le.mp fun q => hin (Or.inr q)
  have h0 : ¬ i < 0 := fun q => hin (Or.inl q)
  obtain ⟨r', hr', cellV, g1, g2, g3, -⟩ := (hM v _ hv).2
  have hcls := (hK.1 2 (RX0, TX0, 13) rfl).2
  obtain ⟨kA, comp, k1, k2, k3, -⟩ := (hK.2 4 _ rfl).2
  have hcomp : comp = g.1.1 2 := Option.some.inj (k3.symm.trans hcls.1)
  subst hcomp
  obtain ⟨kC, hkC, -⟩ := hcls.2
  refine W.aast hc.1 hc.2.1 (hM a _ he).2 (fun q h => by cases h) (fun h => by cases h) k1 k2 rfl hkC ⟨h0, by show _ < (arrV _ _ _).slots.size; rw [arrV_size]; exact hlt⟩ g1 (fun q h => by rw [g3] at h; cases h) (by rw [g2]; exact hkC) (by rw [g2]; exact va_assign hcls) rfl rfl hdg fun H1 e z oq => ?_
  refine kk H1 _ (hM.put (hM.low he) ?_ oq) (hS.put z oq (hM.low he))
  show H1[a]? = some (vp_cell _ _)
  rw [e]
  rw [vp_cell_q, vp_cell_q, arrV_store]
  congr 2
  funext q
  by_cases hq : q = i.toNatClampNeg
  · subst hq
    simp [updV, va_up, va_rf]
  · simp [updV, va_up, hq]
end KR
