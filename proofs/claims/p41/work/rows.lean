section
-- ===== PART A: goes FIRST, ahead of the names: the tables' words, and 'selects' of the private methods out of them =====
/-- a private method of a class that the tables say can be made, by its rows of tables_1 -/
def lw_okq (q : MethodName × Nat) : Prop := (q.1.cls ≠ "java/lang/invoke/MethodHandle" ∧ q.1.cls ≠ "java/lang/invoke/VarHandle") ∧ Cond.instantiable q.1.cls q.2 ∈ tables_1 ∧ Cond.privateMethod q.1 ∈ tables_1 ∧ Cond.instanceMethod q.1 ∈ tables_1
theorem lw_p0 : lw_okq (⟨"MirageSurvey", "begin", "()V"⟩, 12) := ⟨⟨by decide +kernel, by decide +kernel⟩, List.mem_of_getElem? (i := 32) (by decide +kernel), List.mem_of_getElem? (i := 247) (by decide +kernel), List.mem_of_getElem? (i := 248) (by decide +kernel)⟩
theorem lw_p1 : lw_okq (⟨"MirageSurvey", "driveStake", "(I)I"⟩, 12) := ⟨⟨by decide +kernel, by decide +kernel⟩, List.mem_of_getElem? (i := 32) (by decide +kernel), List.mem_of_getElem? (i := 251) (by decide +kernel), List.mem_of_getElem? (i := 252) (by decide +kernel)⟩
theorem lw_p2 : lw_okq (⟨"MirageSurvey", "refuse", "(II)I"⟩, 12) := ⟨⟨by decide +kernel, by decide +kernel⟩, List.mem_of_getElem? (i := 32) (by decide +kernel), List.mem_of_getElem? (i := 258) (by decide +kernel), List.mem_of_getElem? (i := 259) (by decide +kernel)⟩
theorem lw_p3 : lw_okq (⟨"MirageSurvey", "settle", "(I)I"⟩, 12) := ⟨⟨by decide +kernel, by decide +kernel⟩, List.mem_of_getElem? (i := 32) (by decide +kernel), List.mem_of_getElem? (i := 275) (by decide +kernel), List.mem_of_getElem? (i := 276) (by decide +kernel)⟩
theorem lw_p4 : lw_okq (⟨"java/lang/Throwable", "fillInStackTrace", "(I)Ljava/lang/Throwable;"⟩, 6) := ⟨⟨by decide +kernel, by decide +kernel⟩, List.mem_of_getElem? (i := 321) (by decide +kernel), List.mem_of_getElem? (i := 319) (by decide +kernel), List.mem_of_getElem? (i := 320) (by decide +kernel)⟩
theorem lw_p5 : lw_okq (⟨"MirageSurvey$History", "slot", "(I)LMirageSurvey$Flat;"⟩, 3) := ⟨⟨by decide +kernel, by decide +kernel⟩, List.mem_of_getElem? (i := 116) (by decide +kernel), List.mem_of_getElem? (i := 355) (by decide +kernel), List.mem_of_getElem? (i := 356) (by decide +kernel)⟩
theorem lw_p6 : lw_okq (⟨"MirageSurvey", "setUpPost", "(II)I"⟩, 12) := ⟨⟨by decide +kernel, by decide +kernel⟩, List.mem_of_getElem? (i := 32) (by decide +kernel), List.mem_of_getElem? (i := 368) (by decide +kernel), List.mem_of_getElem? (i := 369) (by decide +kernel)⟩
theorem lw_p7 : lw_okq (⟨"MirageSurvey", "addSheet", "()I"⟩, 12) := ⟨⟨by decide +kernel, by decide +kernel⟩, List.mem_of_getElem? (i := 32) (by decide +kernel), List.mem_of_getElem? (i := 379) (by decide +kernel), List.mem_of_getElem? (i := 380) (by decide +kernel)⟩
theorem lw_p8 : lw_okq (⟨"MirageSurvey", "setDayHeat", "(I)I"⟩, 12) := ⟨⟨by decide +kernel, by decide +kernel⟩, List.mem_of_getElem? (i := 32) (by decide +kernel), List.mem_of_getElem? (i := 390) (by decide +kernel), List.mem_of_getElem? (i := 391) (by decide +kernel)⟩
theorem lw_p9 : lw_okq (⟨"MirageSurvey", "drawSighted", "(III)I"⟩, 12) := ⟨⟨by decide +kernel, by decide +kernel⟩, List.mem_of_getElem? (i := 32) (by decide +kernel), List.mem_of_getElem? (i := 409) (by decide +kernel), List.mem_of_getElem? (i := 410) (by decide +kernel)⟩
theorem lw_p10 : lw_okq (⟨"MirageSurvey", "bringCamel", "(I)I"⟩, 12) := ⟨⟨by decide +kernel, by decide +kernel⟩, List.mem_of_getElem? (i := 32) (by decide +kernel), List.mem_of_getElem? (i := 474) (by decide +kernel), List.mem_of_getElem? (i := 475) (by decide +kernel)⟩
theorem lw_p11 : lw_okq (⟨"MirageSurvey", "ringBell", "(I)I"⟩, 12) := ⟨⟨by decide +kernel, by decide +kernel⟩, List.mem_of_getElem? (i := 32) (by decide +kernel), List.mem_of_getElem? (i := 485) (by decide +kernel), List.mem_of_getElem? (i := 486) (by decide +kernel)⟩
theorem lw_p12 : lw_okq (⟨"MirageSurvey", "tieCamel", "(I)I"⟩, 12) := ⟨⟨by decide +kernel, by decide +kernel⟩, List.mem_of_getElem? (i := 32) (by decide +kernel), List.mem_of_getElem? (i := 518) (by decide +kernel), List.mem_of_getElem? (i := 519) (by decide +kernel)⟩
theorem lw_p13 : lw_okq (⟨"MirageSurvey", "loosenCamel", "(I)I"⟩, 12) := ⟨⟨by decide +kernel, by decide +kernel⟩, List.mem_of_getElem? (i := 32) (by decide +kernel), List.mem_of_getElem? (i := 540) (by decide +kernel), List.mem_of_getElem? (i := 541) (by decide +kernel)⟩
theorem lw_p14 : lw_okq (⟨"MirageSurvey", "waterCamel", "(I)I"⟩, 12) := ⟨⟨by decide +kernel, by decide +kernel⟩, List.mem_of_getElem? (i := 32) (by decide +kernel), List.mem_of_getElem? (i := 551) (by decide +kernel), List.mem_of_getElem? (i := 552) (by decide +kernel)⟩
theorem lw_p15 : lw_okq (⟨"MirageSurvey", "bringWater", "(I)I"⟩, 12) := ⟨⟨by decide +kernel, by decide +kernel⟩, List.mem_of_getElem? (i := 32) (by decide +kernel), List.mem_of_getElem? (i := 562) (by decide +kernel), List.mem_of_getElem? (i := 563) (by decide +kernel)⟩
def lw_privs_1 : List (MethodName × Nat) := [(⟨"MirageSurvey", "begin", "()V"⟩, 12), (⟨"MirageSurvey", "driveStake", "(I)I"⟩, 12), (⟨"MirageSurvey", "refuse", "(II)I"⟩, 12), (⟨"MirageSurvey", "settle", "(I)I"⟩, 12), (⟨"java/lang/Throwable", "fillInStackTrace", "(I)Ljava/lang/Throwable;"⟩, 6), (⟨"MirageSurvey$History", "slot", "(I)LMirageSurvey$Flat;"⟩, 3), (⟨"MirageSurvey", "setUpPost", "(II)I"⟩, 12), (⟨"MirageSurvey", "addSheet", "()I"⟩, 12), (⟨"MirageSurvey", "setDayHeat", "(I)I"⟩, 12), (⟨"MirageSurvey", "drawSighted", "(III)I"⟩, 12), (⟨"MirageSurvey", "bringCamel", "(I)I"⟩, 12), (⟨"MirageSurvey", "ringBell", "(I)I"⟩, 12), (⟨"MirageSurvey", "tieCamel", "(I)I"⟩, 12), (⟨"MirageSurvey", "loosenCamel", "(I)I"⟩, 12), (⟨"MirageSurvey", "waterCamel", "(I)I"⟩, 12), (⟨"MirageSurvey", "bringWater", "(I)I"⟩, 12)]
theorem lw_r1 : ∀ q ∈ lw_privs_1, lw_okq q := List.forall_mem_cons.mpr ⟨lw_p0, List.forall_mem_cons.mpr ⟨lw_p1, List.forall_mem_cons.mpr ⟨lw_p2, List.forall_mem_cons.mpr ⟨lw_p3, List.forall_mem_cons.mpr ⟨lw_p4, List.forall_mem_cons.mpr ⟨lw_p5, List.forall_mem_cons.mpr ⟨lw_p6, List.forall_mem_cons.mpr ⟨lw_p7, List.forall_mem_cons.mpr ⟨lw_p8, List.forall_mem_cons.mpr ⟨lw_p9, List.forall_mem_cons.mpr ⟨lw_p10, List.forall_mem_cons.mpr ⟨lw_p11, List.forall_mem_cons.mpr ⟨lw_p12, List.forall_mem_cons.mpr ⟨lw_p13, List.forall_mem_cons.mpr ⟨lw_p14, List.forall_mem_cons.mpr ⟨lw_p15, fun _ h => absurd h List.not_mem_nil⟩⟩⟩⟩⟩⟩⟩⟩⟩⟩⟩⟩⟩⟩⟩⟩
theorem lw_p16 : lw_okq (⟨"MirageSurvey", "passHours", "(I)I"⟩, 12) := ⟨⟨by decide +kernel, by decide +kernel⟩, List.mem_of_getElem? (i := 32) (by decide +kernel), List.mem_of_getElem? (i := 573) (by decide +kernel), List.mem_of_getElem? (i := 574) (by decide +kernel)⟩
theorem lw_p17 : lw_okq (⟨"MirageSurvey", "needCamel", "(I)V"⟩, 12) := ⟨⟨by decide +kernel, by decide +kernel⟩, List.mem_of_getElem? (i := 32) (by decide +kernel), List.mem_of_getElem? (i := 625) (by decide +kernel), List.mem_of_getElem? (i := 626) (by decide +kernel)⟩
theorem lw_p18 : lw_okq (⟨"MirageSurvey", "needStake", "(I)V"⟩, 12) := ⟨⟨by decide +kernel, by decide +kernel⟩, List.mem_of_getElem? (i := 32) (by decide +kernel), List.mem_of_getElem? (i := 665) (by decide +kernel), List.mem_of_getElem? (i := 666) (by decide +kernel)⟩
theorem lw_p19 : lw_okq (⟨"MirageSurvey", "needPost", "(I)V"⟩, 12) := ⟨⟨by decide +kernel, by decide +kernel⟩, List.mem_of_getElem? (i := 32) (by decide +kernel), List.mem_of_getElem? (i := 670) (by decide +kernel), List.mem_of_getElem? (i := 671) (by decide +kernel)⟩
theorem lw_p20 : lw_okq (⟨"MirageSurvey$Text", "signHere", "()C"⟩, 5) := ⟨⟨by decide +kernel, by decide +kernel⟩, List.mem_of_getElem? (i := 135) (by decide +kernel), List.mem_of_getElem? (i := 804) (by decide +kernel), List.mem_of_getElem? (i := 805) (by decide +kernel)⟩
theorem lw_p21 : lw_okq (⟨"MirageSurvey$Text", "readPart", "(C)Z"⟩, 5) := ⟨⟨by decide +kernel, by decide +kernel⟩, List.mem_of_getElem? (i := 135) (by decide +kernel), List.mem_of_getElem? (i := 867) (by decide +kernel), List.mem_of_getElem? (i := 868) (by decide +kernel)⟩
theorem lw_p22 : lw_okq (⟨"MirageSurvey$Text", "readNumber", "(Z)Z"⟩, 5) := ⟨⟨by decide +kernel, by decide +kernel⟩, List.mem_of_getElem? (i := 135) (by decide +kernel), List.mem_of_getElem? (i := 871) (by decide +kernel), List.mem_of_getElem? (i := 872) (by decide +kernel)⟩
theorem lw_p23 : lw_okq (⟨"MirageSurvey$Text", "readDigit", "()I"⟩, 5) := ⟨⟨by decide +kernel, by decide +kernel⟩, List.mem_of_getElem? (i := 135) (by decide +kernel), List.mem_of_getElem? (i := 875) (by decide +kernel), List.mem_of_getElem? (i := 876) (by decide +kernel)⟩
theorem lw_p24 : lw_okq (⟨"MirageSurvey", "carryOut", "(CLMirageSurvey$Row;)I"⟩, 12) := ⟨⟨by decide +kernel, by decide +kernel⟩, List.mem_of_getElem? (i := 32) (by decide +kernel), List.mem_of_getElem? (i := 903) (by decide +kernel), List.mem_of_getElem? (i := 904) (by decide +kernel)⟩
theorem lw_p25 : lw_okq (⟨"MirageSurvey", "eraseDrawn", "(II)I"⟩, 12) := ⟨⟨by decide +kernel, by decide +kernel⟩, List.mem_of_getElem? (i := 32) (by decide +kernel), List.mem_of_getElem? (i := 907) (by decide +kernel), List.mem_of_getElem? (i := 908) (by decide +kernel)⟩
theorem lw_p26 : lw_okq (⟨"MirageSurvey", "needSheet", "(I)V"⟩, 12) := ⟨⟨by decide +kernel, by decide +kernel⟩, List.mem_of_getElem? (i := 32) (by decide +kernel), List.mem_of_getElem? (i := 1048) (by decide +kernel), List.mem_of_getElem? (i := 1049) (by decide +kernel)⟩
theorem lw_p27 : lw_okq (⟨"MirageSurvey$Line", "put", "(C)V"⟩, 2) := ⟨⟨by decide +kernel, by decide +kernel⟩, List.mem_of_getElem? (i := 161) (by decide +kernel), List.mem_of_getElem? (i := 1108) (by decide +kernel), List.mem_of_getElem? (i := 1109) (by decide +kernel)⟩
theorem lw_p28 : lw_okq (⟨"MirageSurvey$Line", "putNumber", "(I)V"⟩, 2) := ⟨⟨by decide +kernel, by decide +kernel⟩, List.mem_of_getElem? (i := 161) (by decide +kernel), List.mem_of_getElem? (i := 1112) (by decide +kernel), List.mem_of_getElem? (i := 1113) (by decide +kernel)⟩
def lw_privs_2 : List (MethodName × Nat) := [(⟨"MirageSurvey", "passHours", "(I)I"⟩, 12), (⟨"MirageSurvey", "needCamel", "(I)V"⟩, 12), (⟨"MirageSurvey", "needStake", "(I)V"⟩, 12), (⟨"MirageSurvey", "needPost", "(I)V"⟩, 12), (⟨"MirageSurvey$Text", "signHere", "()C"⟩, 5), (⟨"MirageSurvey$Text", "readPart", "(C)Z"⟩, 5), (⟨"MirageSurvey$Text", "readNumber", "(Z)Z"⟩, 5), (⟨"MirageSurvey$Text", "readDigit", "()I"⟩, 5), (⟨"MirageSurvey", "carryOut", "(CLMirageSurvey$Row;)I"⟩, 12), (⟨"MirageSurvey", "eraseDrawn", "(II)I"⟩, 12), (⟨"MirageSurvey", "needSheet", "(I)V"⟩, 12), (⟨"MirageSurvey$Line", "put", "(C)V"⟩, 2), (⟨"MirageSurvey$Line", "putNumber", "(I)V"⟩, 2)]
theorem lw_r2 : ∀ q ∈ lw_privs_2, lw_okq q := List.forall_mem_cons.mpr ⟨lw_p16, List.forall_mem_cons.mpr ⟨lw_p17, List.forall_mem_cons.mpr ⟨lw_p18, List.forall_mem_cons.mpr ⟨lw_p19, List.forall_mem_cons.mpr ⟨lw_p20, List.forall_mem_cons.mpr ⟨lw_p21, List.forall_mem_cons.mpr ⟨lw_p22, List.forall_mem_cons.mpr ⟨lw_p23, List.forall_mem_cons.mpr ⟨lw_p24, List.forall_mem_cons.mpr ⟨lw_p25, List.forall_mem_cons.mpr ⟨lw_p26, List.forall_mem_cons.mpr ⟨lw_p27, List.forall_mem_cons.mpr ⟨lw_p28, fun _ h => absurd h List.not_mem_nil⟩⟩⟩⟩⟩⟩⟩⟩⟩⟩⟩⟩⟩
def lw_privs : List (MethodName × Nat) := lw_privs_1 ++ (lw_privs_2)
def lw_tbl : List Cond := k2_sels lw_privs ++ tables_1
theorem lw_privs_ok : ∀ q ∈ lw_privs, lw_okq q := by
  show ∀ q ∈ lw_privs_1 ++ (lw_privs_2), lw_okq q
  exact List.forall_mem_append.mpr ⟨lw_r1, lw_r2⟩
/-- the streams that the claim lets the run draw from -/
abbrev lw_cs : List Choice := [Jvm.Choice.named "NaN.bits"]
theorem lw_bits : nanBits ∈ lw_cs := by first | decide | exact List.mem_cons_self | simp [lw_cs, nanBits]

/-! ===== BEGIN words of one list among another's, by their places ===== -/
theorem goodIn_r {big : List Cond} (ws : List Cond) (ps : List Nat) (hp : ws = ps.filterMap (fun i => big[i]?)) (h : ws.all goodWord = true) : GoodIn big ws := by
  intro w hw
  have h1 := List.all_eq_true.mp h w hw
  rw [hp] at hw
  obtain ⟨i, -, hi⟩ := List.mem_filterMap.mp hw
  have hm : w ∈ big := by first | exact List.mem_of_getElem? hi | exact List.getElem?_mem hi
  exact ⟨hm, good_of_word h1⟩
theorem goodIn_app {big a b : List Cond} (ha : GoodIn big a) (hb : GoodIn big b) : GoodIn big (a ++ b) := fun w h => (List.mem_append.mp h).elim (ha w) (hb w)
theorem goodIn_ca {big a b : List Cond} {c : Cond} (ha : GoodIn big (c :: a)) (hb : GoodIn big b) : GoodIn big (c :: (a ++ b)) := fun w h => (List.mem_cons.mp h).elim (fun e => ha w (List.mem_cons.mpr (Or.inl e))) (fun h => (List.mem_append.mp h).elim (fun h => ha w (List.mem_cons.mpr (Or.inr h))) (hb w))
theorem goodIn_sub {big ws : List Cond} (hm : ∀ w ∈ ws, w ∈ big) (h : ws.all goodWord = true) : GoodIn big ws := fun w hw => ⟨hm w hw, good_of_word (List.all_eq_true.mp h w hw)⟩
/-! ===== END ===== -/

/-! ===== BEGIN exceptions that leave a method, and their catching by the caller (launches without stack traces) ===== -/
section VXA
/-! The laws vx_back, vx_callV, vx_callS, vx_callSW, vx_throw0, vx_throwS follow proofs of the library, with one case more: JvmDerived/Free/Laws.lean (Back.of_free), Shelf42/LK1.lean (callV, callS), Shelf/KitTraced.lean (throwNew0V, throwNewS). -/
/-- where a method has thrown q: the class by its name, the cell, what was written, the world -/
def vx_T (XC : String → State → State → Prop) (st : State) (q : Addr) (t : State) (mc ms : Nat) (free : Addr → Prop) : Prop :=
  ∃ (E : String) (ce : Cell) (L : List Loc), XC E st t ∧ t.heap[q]? = some ce ∧ ce.vm = .none ∧ st.vm.findClass E = some ce.cls ∧ st.WarmedH t.vm ∧ st.sameButNew ({ t with vm := st.vm } : State) L mc ms ∧ ∀ z ∈ L, free z.base
def vx_Q (Qc : Array Value → State → Outcome → State → Prop) (XC : String → State → State → Prop) (mc ms : Nat) (free : Addr → Prop) : Array Value → State → Outcome → State → Prop := fun a st o t =>
  (Qc a st o t ∧ ∃ L, FrameEnd st o t L mc ms ∧ ∀ q ∈ L, free q.base) ∨ ∃ q, o = .threw q ∧ vx_T XC st q t mc ms free
/-- a callee that returns or throws -/
def vx_Met (l : Launch) (y : MethodName) (ws : List Cond) (rm : Room) (Pc : Array Value → State → Prop) (Qc : Array Value → State → Outcome → State → Prop) (XC : String → State → State → Prop) (mc ms : Nat) (free : Addr → Prop) : Prop :=
  MetFree l y (headSpec ws rm) Pc (fun _ _ _ _ _ => True) (vx_Q Qc XC mc ms free)
def vx_Post (XC : String → State → State → Prop) (mc ms : Nat) (free : Addr → Prop) : Pt → Array Value → Addr → Pt → Prop := fun A a q B =>
  ∃ (g : JFrame) (mk : MethodId) (t : State) (L : List Loc) (E : String) (ce : Cell), B.U.heap = t.heap ∧ B.U.vm = t.vm ∧ XC E (A.U.calling g mk a) t ∧ t.heap[q]? = some ce ∧ ce.vm = .none ∧ A.U.vm.findClass E = some ce.cls ∧ B.locs = A.locs ++ L ∧ (∀ z ∈ L, free z.base) ∧ B.cells = A.cells + mc ∧ B.slots = A.slots + ms
def vx_Back (l : Launch) (R : Room) (p : Program) (e : Env) (below : List Frame) (s : State) (sargs : Array Value) (y : MethodName) (len W9 : Nat)
    (Pre : Pt → Array Value → Prop) (Post : Pt → Array Value → Option Value → Pt → Prop) (PostX : Pt → Array Value → Addr → Pt → Prop) : Prop :=
  ∀ (m : MethodId) (meth : Method) (c : Code) (A : Pt) (g : JFrame) (ig : Instr) (mk : MethodId) (a : Array Value),
    Stand p l e R s m sargs below meth c A.U A.locs A.cells A.slots → g.method = m → g.locals.size = c.maxLocals → decode c.code g.pc = .ok (ig, len) →
    2 * g.monitorRoom + (g.stack.map fun v => v.category).sum ≤ W9 → A.U.methodNamed? y = some mk → Pre A a →
    (∃ (v : Option Value) (B : Pt), Stand p l e R s m sargs below meth c B.U B.locs B.cells B.slots ∧ Post A a v B ∧
      Steps p.tables e below (doInvoke e (A.U.setTop g) [] mk a).1 (B.U.setTop { g with pc := g.pc + len, stack := v.toList ++ g.stack })) ∨
    (∃ (q : Addr) (B : Pt), Stand p l e R s m sargs below meth c B.U B.locs B.cells B.slots ∧ PostX A a q B ∧
      Steps p.tables e below (doInvoke e (A.U.setTop g) [] mk a).1 ((B.U.setTop g).pushFrame (.throwing q)))
section Payer
variable {l : Launch} {R : Room} {p : Program} {e : Env} {below : List Frame} {s : State} {sargs : Array Value} {y : MethodName} {len W9 : Nat}
theorem vx_back {ws : List Cond} {rm : Room} {Pc : Array Value → State → Prop} {Qc : Array Value → State → Outcome → State → Prop} {XC : String → State → State → Prop} {mc ms : Nat} {free : Addr → Prop} {bytes : ByteArray} {maxL : Nat} {ret : Option FieldType}
    (hM : vx_Met l y ws rm Pc Qc XC mc ms free) (hblind : FrameBlind Pc) (hrc : rm.cells = mc) (hrs : rm.slots = ms)
    (hframes : rm.frames + 1 ≤ R.frames) (hlocals : W9 + (maxL + 11) + rm.locals ≤ R.locals)
    (hws : ∀ w ∈ ws, ∀ a' U, s.WarmedH U.vm → w.before a' U = true) (hcode : Cond.code y bytes maxL ret ∈ ws) (hinit : ∀ a' U, s.WarmedH U.vm → (Cond.initialized y.cls).before a' U = true) :
    vx_Back l R p e below s sargs y len W9 (PreOf R mc ms Pc) (PostOf Qc mc ms free) (vx_Post XC mc ms free) := by
  intro m meth c A g ig mk a X hg hsize hdg hW hn hp
  have h1 : (headSpec ws rm).pre.before a A.U = true := atoms_intro fun w hw => hws w hw _ _ X.warmed
  have h2 : (Cond.code y bytes maxL ret).before a A.U = true := hws _ hcode _ _ X.warmed
  have h3 : (Cond.initialized y.cls).before a A.U = true := hinit _ _ X.warmed
  have h4 : A.cells + (headSpec ws rm).room.cells ≤ R.cells := by rw [show (headSpec ws rm).room.cells = mc from hrc]; exact hp.1
  have h5 : A.slots + (headSpec ws rm).room.slots ≤ R.slots := by rw [show (headSpec ws rm).room.slots = ms from hrs]; exact hp.2.1
  have hPc : Pc a (A.U.calling g mk a) := hblind _ _ _ _ hp.2.2
  obtain ⟨U, Ls, c0, s0⟩ := A
  dsimp only [Pt.U, Pt.locs, Pt.cells, Pt.slots] at h1 h2 h3 h4 h5 X hn hPc ⊢
  obtain ⟨methY, cY, hmY, hcY, -, hlY, -, -, -, -⟩ := Cond.code_spec hn h2
  obtain ⟨kY, hkY, -⟩ := className_of_methodNamed hn
  have hinitY : kY.init = .initialized := Cond.initialized_spec (findClass_of_methodNamed hn) hkY h3
  have h : At U g.method c below := by rw [hg]; exact X.here
  have hlocals9 : W9 + (maxL + 11) + (headSpec ws rm).room.locals ≤ R.locals := hlocals
  have happ : (headSpec ws rm).appliesLoose y e.platform (U.calling g mk a) = true :=
    Spec.appliesLoose_calling (g := g) h hdg hn hkY hinitY
      (X.room_calling (g := g) (R' := (headSpec ws rm).room) hsize hmY hcY hframes (by rw [hlY]; omega) h4 h5) h1
  obtain ⟨mid, hmid⟩ := h.above
  have hfr : (U.setTop g).frames = (.java g :: mid) ++ below := by rw [State.frames_setTop' g h.top, hmid]; rfl
  obtain ⟨o, s₂, hsteps, -, hend, hq⟩ := Steps.callFree hM p X.admits X.cas X.clock (acts := []) hfr happ hPc trivial
  have hq' : vx_Q Qc XC mc ms free a (U.calling g mk a) o s₂ := hq
  rw [State.frames_setTop' g h.top] at hend
  obtain ⟨g₀, hg0⟩ := Option.isSome_iff_exists.mp h.top
  obtain ⟨r, hr⟩ := State.topJava?_eq_some.mp hg0
  have hr' : (({ U with heap := s₂.heap, slotsUsed := s₂.slotsUsed } : State).setVm s₂.vm).frames = .java g₀ :: r := hr
  rcases hq' with ⟨hqc, L, hfe, hL⟩ | ⟨q, rfl, E, ce, L, hx, hce, hcv, hcl, hW₂, hsm, hL⟩
  · obtain ⟨⟨v, rfl⟩, hW₂, e2, q2, q3, q4, q5, q6⟩ := id hfe
    have e3 : s₂ = ({ (U.calling g mk a).setFrames s₂.frames with heap := s₂.heap, slotsUsed := s₂.slotsUsed } : State).setVm s₂.vm := by
      have : s₂ = ({ s₂ with vm := (U.calling g mk a).vm } : State).setVm s₂.vm := rfl
      rw [e2] at this
      exact this
    obtain ⟨c₂, i₂, len₂, hc₂, hd₂, hf₂⟩ := hend
    have hW' : U.WarmedH s₂.vm := hW₂
    have hcc : c₂ = c := by
      have h1 : s₂.code? g.method = U.code? g.method := by
        rw [State.code?_eq, State.code?_eq, hW'.alike.method?]
      exact Option.some.inj (hc₂.symm.trans (h1.trans h.code))
    subst hcc
    have hlen : len₂ = len := by rw [hdg] at hd₂; cases hd₂; rfl
    subst hlen
    have hs₂ : s₂ = (({ U with heap := s₂.heap, slotsUsed := s₂.slotsUsed } : State).setVm s₂.vm).setTop { g with pc := g.pc + len₂, stack := v.toList ++ g.stack } := by
      refine e3.trans ?_
      rw [hf₂, State.calling_eq h.top, State.setFrames_setFrames, State.setTop_of_frames _ hr', hr]
      rfl
    have hsame : U.sameButNew ({ U with heap := s₂.heap, slotsUsed := s₂.slotsUsed } : State) L mc ms := by
      refine ⟨?_, q2, q3, q4, q5, q6⟩
      obtain ⟨t, ht, -⟩ := State.frames_cons hr
      show ({ U with heap := s₂.heap, slotsUsed := s₂.slotsUsed } : State) = { U.setFrames U.frames with heap := s₂.heap, slotsUsed := s₂.slotsUsed }
      rw [State.setFrames_self ht]
    subst hg
    refine Or.inl ⟨v, ⟨(({ U with heap := s₂.heap, slotsUsed := s₂.slotsUsed } : State).setVm s₂.vm), Ls ++ L, c0 + mc, s0 + ms⟩,
      ⟨X.admits, X.cas, X.clock, X.frames, X.room, X.hears, X.method, X.code, (X.here.setHeapUsed s₂.heap s₂.slotsUsed).setVm hW'.alike, X.tail, State.WarmedH.trans X.warmed hW', X.limits, X.bytes, X.same.trans (hsame.setVm s.vm)⟩,
      ⟨g, mk, s₂, L, rfl, rfl, hqc, rfl, hL, rfl, rfl⟩, ?_⟩
    show Steps p.tables e below _ ((({ U with heap := s₂.heap, slotsUsed := s₂.slotsUsed } : State).setVm s₂.vm).setTop { g with pc := g.pc + len₂, stack := v.toList ++ g.stack })
    rw [← hs₂]
    exact hsteps
  · obtain ⟨e2, q2, q3, q4, q5, q6⟩ := id hsm
    have e3 : s₂ = ({ (U.calling g mk a).setFrames s₂.frames with heap := s₂.heap, slotsUsed := s₂.slotsUsed } : State).setVm s₂.vm := by
      have : s₂ = ({ s₂ with vm := (U.calling g mk a).vm } : State).setVm s₂.vm := rfl
      rw [e2] at this
      exact this
    have hf₂ : s₂.frames = .throwing q :: .java g :: U.frames.tail := hend
    have hW' : U.WarmedH s₂.vm := hW₂
    have hs₂ : s₂ = ((({ U with heap := s₂.heap, slotsUsed := s₂.slotsUsed } : State).setVm s₂.vm).setTop g).pushFrame (.throwing q) := by
      refine e3.trans ?_
      rw [hf₂, State.calling_eq h.top, State.setFrames_setFrames, State.pushFrame, State.frames_setTop _ hr', State.setTop_of_frames _ hr', State.setFrames_setFrames, hr]
      rfl
    have hsame : U.sameButNew ({ U with heap := s₂.heap, slotsUsed := s₂.slotsUsed } : State) L mc ms := by
      refine ⟨?_, q2, q3, q4, q5, q6⟩
      obtain ⟨t, ht, -⟩ := State.frames_cons hr
      show ({ U with heap := s₂.heap, slotsUsed := s₂.slotsUsed } : State) = { U.setFrames U.frames with heap := s₂.heap, slotsUsed := s₂.slotsUsed }
      rw [State.setFrames_self ht]
    subst hg
    refine Or.inr ⟨q, ⟨(({ U with heap := s₂.heap, slotsUsed := s₂.slotsUsed } : State).setVm s₂.vm), Ls ++ L, c0 + mc, s0 + ms⟩,
      ⟨X.admits, X.cas, X.clock, X.frames, X.room, X.hears, X.method, X.code, (X.here.setHeapUsed s₂.heap s₂.slotsUsed).setVm hW'.alike, X.tail, State.WarmedH.trans X.warmed hW', X.limits, X.bytes, X.same.trans (hsame.setVm s.vm)⟩,
      ⟨g, mk, s₂, L, E, ce, rfl, rfl, hx, hce, hcv, hcl, rfl, hL, rfl, rfl⟩, ?_⟩
    show Steps p.tables e below _ (((({ U with heap := s₂.heap, slotsUsed := s₂.slotsUsed } : State).setVm s₂.vm).setTop g).pushFrame (.throwing q))
    rw [← hs₂]
    exact hsteps
end Payer
section Calls
variable {p : Program} {l : Launch} {e : Env} {R : Room} {s : State} {m : MethodId} {args : Array Value} {below : List Frame} {meth : Method} {c : Code} {T : State} {locs : List Loc} {cells slots : Nat}
theorem vx_callV (X : Stand p l e R s m args below meth c T locs cells slots) (hexec : p.tables.exec = Jvm.exec) {own C : String} {index : Nat} {y : MethodName} {bytes : ByteArray} {maxL : Nat} {ret : Option FieldType}
    (hown : s.vm.findClass own = some m.cls) (hlink : (Cond.methodLink own index y).before args s = true) (hinst : (Cond.instanceMethod y).before args s = true) (hsel : (Cond.selects C y y).before args s = true)
    (hcode : (Cond.code y bytes maxL ret).before args s = true) (hy : y.cls ≠ "java/lang/invoke/MethodHandle" ∧ y.cls ≠ "java/lang/invoke/VarHandle")
    {W9 : Nat} {Pre : Pt → Array Value → Prop} {Post : Pt → Array Value → Option Value → Pt → Prop} {PostX : Pt → Array Value → Addr → Pt → Prop} (hK : vx_Back l R p e below s args y 3 W9 Pre Post PostX)
    {b : Addr} {cellB : Cell} (hcell : T.heap[b]? = some cellB) (hobj : cellB.vm.isStatics = false) (hcls : s.vm.findClass C = some cellB.cls)
    {g : JFrame} (hg : g.method = m) (hsize : g.locals.size = c.maxLocals) {argsL rest : List Value} (hlen : ∀ sig, parseMethodDescriptor y.desc = some sig → argsL.length = sig.parameters.length)
    (hstack : g.stack = argsL.reverse ++ .ref b :: rest) (hW : 2 * g.monitorRoom + (rest.map fun v => v.category).sum ≤ W9) (hdg : decode c.code g.pc = .ok (.invokevirtual index, 3))
    (hpre : ∀ vm₁, s.WarmedH vm₁ → Pre ⟨T.setVm vm₁, locs, cells, slots⟩ (Value.ref b :: argsL).toArray) :
    (∃ (v : Option Value) (vm₁ : Vm) (B : Pt), s.WarmedH vm₁ ∧ Stand p l e R s m args below meth c B.U B.locs B.cells B.slots ∧ Post ⟨T.setVm vm₁, locs, cells, slots⟩ (Value.ref b :: argsL).toArray v B ∧
      ∀ target, Steps p.tables e below (B.U.setTop { g with pc := g.pc + 3, stack := v.toList ++ rest }) target → Steps p.tables e below (T.setTop g) target) ∨
    (∃ (q : Addr) (vm₁ : Vm) (B : Pt), s.WarmedH vm₁ ∧ Stand p l e R s m args below meth c B.U B.locs B.cells B.slots ∧ PostX ⟨T.setVm vm₁, locs, cells, slots⟩ (Value.ref b :: argsL).toArray q B ∧
      Steps p.tables e below (T.setTop g) ((B.U.setTop { g with stack := rest }).pushFrame (.throwing q))) := by
  obtain ⟨mk, methM, hnamed, hmethM, hstM, habM⟩ := Cond.instanceMethod_spec hinst
  obtain ⟨methM', cM, hmethM', -, -, -, -, -, -, hsigM⟩ := Cond.code_spec hnamed hcode
  cases hmethM.symm.trans hmethM'
  obtain ⟨c2, r2, m2, q1, q2, q3, q4, kP, hkP, hkPi⟩ := Cond.selects_spec hsel
  cases hcls.symm.trans q1
  cases (State.methodFound?_of_named hnamed hy).symm.trans q2
  cases hnamed.symm.trans q3
  have hselP : selectMethod e.platform s.vm cellB.cls mk = .method mk := by rw [Launch.admits_selectMethod X.admits]; exact q4
  obtain ⟨vm₁, X₁, hstep₁⟩ := X.invokevirtual hexec hown hlink hnamed hmethM hstM hkP hkPi hy (a := b) (cell := cellB) hcell
    (fun z h => by rw [h] at hobj; cases hobj) hselP hmethM habM hkP hkPi (g := g) hg (argsL := argsL) (rest := rest) (hlen _ hsigM) hstack hdg
  rcases hK m meth c ⟨T.setVm vm₁, locs, cells, slots⟩ { g with stack := rest } (.invokevirtual index) mk (Value.ref b :: argsL).toArray X₁ hg hsize hdg hW (X₁.named hnamed) (hpre vm₁ X₁.warmed) with ⟨v, B, X', hpost, hsteps⟩ | ⟨q, B, X', hpost, hsteps⟩
  · exact Or.inl ⟨v, vm₁, B, X₁.warmed, X', hpost, fun target h => hstep₁ _ fun acts => by rw [doInvoke_state]; exact hsteps.trans h⟩
  · exact Or.inr ⟨q, vm₁, B, X₁.warmed, X', hpost, hstep₁ _ fun acts => by rw [doInvoke_state]; exact hsteps⟩
theorem vx_callS (X : Stand p l e R s m args below meth c T locs cells slots) (hexec : p.tables.exec = Jvm.exec) {own : String} {index : Nat} {y : MethodName} {bytes : ByteArray} {maxL : Nat} {ret : Option FieldType}
    (hown : s.vm.findClass own = some m.cls) (hlink : (Cond.methodLink own index y).before args s = true) (hstat : (Cond.static y).before args s = true) (hinit : (Cond.initialized y.cls).before args s = true)
    (hcode : (Cond.code y bytes maxL ret).before args s = true) (hy : y.cls ≠ "java/lang/invoke/MethodHandle" ∧ y.cls ≠ "java/lang/invoke/VarHandle")
    {W9 : Nat} {Pre : Pt → Array Value → Prop} {Post : Pt → Array Value → Option Value → Pt → Prop} {PostX : Pt → Array Value → Addr → Pt → Prop} (hK : vx_Back l R p e below s args y 3 W9 Pre Post PostX)
    {g : JFrame} (hg : g.method = m) (hsize : g.locals.size = c.maxLocals) {argsL rest : List Value} (hlen : ∀ sig, parseMethodDescriptor y.desc = some sig → argsL.length = sig.parameters.length)
    (hstack : g.stack = argsL.reverse ++ rest) (hW : 2 * g.monitorRoom + (rest.map fun v => v.category).sum ≤ W9) (hdg : decode c.code g.pc = .ok (.invokestatic index, 3))
    (hpre : ∀ vm₁, s.WarmedH vm₁ → Pre ⟨T.setVm vm₁, locs, cells, slots⟩ argsL.toArray) :
    (∃ (v : Option Value) (vm₁ : Vm) (B : Pt), s.WarmedH vm₁ ∧ Stand p l e R s m args below meth c B.U B.locs B.cells B.slots ∧ Post ⟨T.setVm vm₁, locs, cells, slots⟩ argsL.toArray v B ∧
      ∀ target, Steps p.tables e below (B.U.setTop { g with pc := g.pc + 3, stack := v.toList ++ rest }) target → Steps p.tables e below (T.setTop g) target) ∨
    (∃ (q : Addr) (vm₁ : Vm) (B : Pt), s.WarmedH vm₁ ∧ Stand p l e R s m args below meth c B.U B.locs B.cells B.slots ∧ PostX ⟨T.setVm vm₁, locs, cells, slots⟩ argsL.toArray q B ∧
      Steps p.tables e below (T.setTop g) ((B.U.setTop { g with stack := rest }).pushFrame (.throwing q))) := by
  obtain ⟨mk, hnamed⟩ := Cond.code_named hcode
  obtain ⟨methM, cM, hmethM, -, -, -, -, -, -, hsigM⟩ := Cond.code_spec hnamed hcode
  have hstatic : methM.isStatic = true := Cond.static_spec hnamed hmethM hstat
  obtain ⟨kP, hkP, -⟩ := className_of_methodNamed hnamed
  have hinitP : kP.init = .initialized := Cond.initialized_spec (findClass_of_methodNamed hnamed) hkP hinit
  obtain ⟨vm₁, X₁, hstep₁⟩ := X.invokestatic hexec hown hlink hnamed hmethM hstatic hkP hinitP hy (g := g) hg (argsL := argsL) (rest := rest) (hlen _ hsigM) hstack hdg
  rcases hK m meth c ⟨T.setVm vm₁, locs, cells, slots⟩ { g with stack := rest } (.invokestatic index) mk argsL.toArray X₁ hg hsize hdg hW (X₁.named hnamed) (hpre vm₁ X₁.warmed) with ⟨v, B, X', hpost, hsteps⟩ | ⟨q, B, X', hpost, hsteps⟩
  · exact Or.inl ⟨v, vm₁, B, X₁.warmed, X', hpost, fun target h => hstep₁ _ fun acts => by rw [doInvoke_state]; exact hsteps.trans h⟩
  · exact Or.inr ⟨q, vm₁, B, X₁.warmed, X', hpost, hstep₁ _ fun acts => by rw [doInvoke_state]; exact hsteps⟩
end Calls
theorem vx_cls {s : State} {T : State} {vm₁ : Vm} {E : String} {k : ClassId} (hW : s.WarmedH vm₁) (h : (T.setVm vm₁).vm.findClass E = some k) : s.vm.findClass E = some k := by
  have h1 : vm₁.findClass E = some k := h
  rw [hW.alike.findClass] at h1
  exact h1
/-- the method's frame g, with q thrown over it -/
def vx_W (p : Program) (l : Launch) (e : Env) (R : Room) (s : State) (m : MethodId) (args : Array Value) (below : List Frame) (meth : Method) (c : Code) (H : Heap) (locs : List Loc) (cells slots : Nat) (Q : State → Prop) (g : JFrame) (q : Addr) : Prop :=
  ∀ T : State, T.heap = H → Stand p l e R s m args below meth c T locs cells slots → ∃ t, Steps p.tables e below ((T.setTop g).pushFrame (.throwing q)) t ∧ Q t
def vx_Run (p : Program) (l : Launch) (e : Env) (R : Room) (s : State) (m : MethodId) (args : Array Value) (below : List Frame) (meth : Method) (c : Code) (H : Heap) (locs : List Loc) (cells slots mc ms : Nat) (g : JFrame) (rest : List Value) (Qa : State → Outcome → State → Prop) (XC : String → State → State → Prop) (free : Addr → Prop) : Prop :=
  ∀ T : State, T.heap = H → Stand p l e R s m args below meth c T locs cells slots →
    (∃ (v : Option Value) (st₀ t T' : State) (L : List Loc), st₀.heap = H ∧ Stand p l e R s m args below meth c T' (locs ++ L) (cells + mc) (slots + ms) ∧ (∀ q ∈ L, free q.base) ∧ T'.heap = t.heap ∧ T'.vm = t.vm ∧ Qa st₀ (.returned v) t ∧
      Goes p e below T g T' { g with pc := g.pc + 3, stack := v.toList ++ rest }) ∨
    (∃ (q : Addr) (st₀ t T' : State) (L : List Loc) (E : String) (ce : Cell), st₀.heap = H ∧ Stand p l e R s m args below meth c T' (locs ++ L) (cells + mc) (slots + ms) ∧ (∀ z ∈ L, free z.base) ∧ T'.heap = t.heap ∧ T'.vm = t.vm ∧ XC E st₀ t ∧ t.heap[q]? = some ce ∧ ce.vm = .none ∧ s.vm.findClass E = some ce.cls ∧
      Steps p.tables e below (T.setTop g) ((T'.setTop { g with stack := rest }).pushFrame (.throwing q)))
def vx_X {S : Type} (px : S → Prop) (B : String → S → State → Prop) (A : Nat → Prop) : String → State → State → Prop := fun E st t => ∃ u : S, px u ∧ B E u t ∧ va_F A st t
section Runs
variable {p : Program} {l : Launch} {e : Env} {R : Room} {s : State} {m : MethodId} {args : Array Value} {below : List Frame} {meth : Method} {c : Code} {H : Heap} {locs : List Loc} {cells slots : Nat}
variable {y : MethodName} {bytes cc : ByteArray} {maxL nL mc ms n index : Nat} {ret : Option FieldType} {ws : List Cond} {rm : Room} {Pc : Array Value → State → Prop} {Qc : Array Value → State → Outcome → State → Prop} {XC : String → State → State → Prop} {free : Addr → Prop} {Ts : List Cond} {own C : String} {b : Addr} {As rest : List Value} {g : JFrame}
theorem vx_callBack (cb : CallB R s args own index y bytes maxL ret ws rm mc ms n) (hM : vx_Met l y ws rm Pc Qc XC mc ms free) (hbl : FrameBlind Pc) : vx_Back l R p e below s args y 3 8 (PreOf R mc ms Pc) (PostOf Qc mc ms free) (vx_Post XC mc ms free) := by
  obtain ⟨hrc, hrs, hfr, hlo, hws, hcw, -, hini, -⟩ := cb
  exact vx_back (bytes := bytes) (maxL := maxL) (ret := ret) hM hbl hrc hrs hfr hlo hws hcw (fun a' U hW => word_at hW (Or.inl (by first | rfl | simp [Cond.onTables, Cond.keeps, Cond.steady])) hini)
theorem vx_runV (S : CallFix p m c cc nL s args Ts own) (hM : vx_Met l y ws rm Pc Qc XC mc ms free) (cw : CallW R s args own C index y bytes maxL ret ws rm mc ms n) (hp : PreV s H C b Pc As)
    (hg : g.method = m) (hn : As.length = n) (hsize : g.locals.size = nL) (hstack : g.stack = As.reverse ++ .ref b :: rest) (hW : 2 * g.monitorRoom + (rest.map fun v => v.category).sum ≤ 8) (hdg : decode cc g.pc = .ok (.invokevirtual index, 3)) (hf : cells + mc ≤ R.cells ∧ slots + ms ≤ R.slots) :
    vx_Run p l e R s m args below meth c H locs cells slots mc ms g rest (Qc (Value.ref b :: As).toArray) XC free := by
  have hK : vx_Back l R p e below s args y 3 8 (PreOf R mc ms Pc) (PostOf Qc mc ms free) (vx_Post XC mc ms free) := vx_callBack cw.1 hM hp.1
  obtain ⟨⟨-, -, -, -, -, -, hcode, -, hy, hlen, hl⟩, hin, hse⟩ := cw
  obtain ⟨hx, hb, hml, ho, -⟩ := S
  obtain ⟨-, ⟨cellB, hcB, hoB, hclB⟩, hPc⟩ := hp
  intro T hT X
  rcases vx_callV X hx (C := C) (bytes := bytes) (maxL := maxL) (ret := ret) ho hl hin hse hcode hy hK (by rw [hT]; exact hcB) hoB hclB hg (hsize.trans hml.symm) (argsL := As) (rest := rest) (fun sig h => hn.trans (hlen sig h)) hstack hW (by rw [hb]; exact hdg)
    (fun vm₁ hW₁ => ⟨hf.1, hf.2, hPc (T.setVm vm₁) hT hW₁⟩) with ⟨v, vm₁, ⟨U', l2, c2, s2⟩, hW₁, X', ⟨g', mk, t, L, e1, e2, hq, h1, hL, h2, h3⟩, st⟩ | ⟨q, vm₁, ⟨U', l2, c2, s2⟩, hW₁, X', ⟨g', mk, t, L, E, ce, e1, e2, hq, hce, hcv, hcl, h1, hL, h2, h3⟩, st⟩
  · dsimp only [Pt.U, Pt.locs, Pt.cells, Pt.slots] at X' e1 e2 h1 h2 h3 st
    subst h1; subst h2; subst h3
    exact Or.inl ⟨v, (T.setVm vm₁).calling g' mk (Value.ref b :: As).toArray, t, U', L, hT, X', hL, e1, e2, hq, st⟩
  · dsimp only [Pt.U, Pt.locs, Pt.cells, Pt.slots] at X' e1 e2 h1 h2 h3 st hcl
    subst h1; subst h2; subst h3
    exact Or.inr ⟨q, (T.setVm vm₁).calling g' mk (Value.ref b :: As).toArray, t, U', L, E, ce, hT, X', hL, e1, e2, hq, hce, hcv, vx_cls hW₁ hcl, st⟩
theorem vx_runS (S : CallFix p m c cc nL s args Ts own) (hM : vx_Met l y ws rm Pc Qc XC mc ms free) (cw : CallB R s args own index y bytes maxL ret ws rm mc ms n ∧ (Cond.static y).before args s = true) (hp : PreS s H Pc As)
    (hg : g.method = m) (hn : As.length = n) (hsize : g.locals.size = nL) (hstack : g.stack = As.reverse ++ rest) (hW : 2 * g.monitorRoom + (rest.map fun v => v.category).sum ≤ 8) (hdg : decode cc g.pc = .ok (.invokestatic index, 3)) (hf : cells + mc ≤ R.cells ∧ slots + ms ≤ R.slots) :
    vx_Run p l e R s m args below meth c H locs cells slots mc ms g rest (Qc As.toArray) XC free := by
  have hK : vx_Back l R p e below s args y 3 8 (PreOf R mc ms Pc) (PostOf Qc mc ms free) (vx_Post XC mc ms free) := vx_callBack cw.1 hM hp.1
  obtain ⟨⟨-, -, -, -, -, -, hcode, hini, hy, hlen, hl⟩, hstt⟩ := cw
  obtain ⟨hx, hb, hml, ho, -⟩ := S
  intro T hT X
  rcases vx_callS X hx (bytes := bytes) (maxL := maxL) (ret := ret) ho hl hstt hini hcode hy hK hg (hsize.trans hml.symm) (argsL := As) (rest := rest) (fun sig h => hn.trans (hlen sig h)) hstack hW (by rw [hb]; exact hdg)
    (fun vm₁ hW₁ => ⟨hf.1, hf.2, hp.2 (T.setVm vm₁) hT hW₁⟩) with ⟨v, vm₁, ⟨U', l2, c2, s2⟩, hW₁, X', ⟨g', mk, t, L, e1, e2, hq, h1, hL, h2, h3⟩, st⟩ | ⟨q, vm₁, ⟨U', l2, c2, s2⟩, hW₁, X', ⟨g', mk, t, L, E, ce, e1, e2, hq, hce, hcv, hcl, h1, hL, h2, h3⟩, st⟩
  · dsimp only [Pt.U, Pt.locs, Pt.cells, Pt.slots] at X' e1 e2 h1 h2 h3 st
    subst h1; subst h2; subst h3
    exact Or.inl ⟨v, (T.setVm vm₁).calling g' mk As.toArray, t, U', L, hT, X', hL, e1, e2, hq, st⟩
  · dsimp only [Pt.U, Pt.locs, Pt.cells, Pt.slots] at X' e1 e2 h1 h2 h3 st hcl
    subst h1; subst h2; subst h3
    exact Or.inr ⟨q, (T.setVm vm₁).calling g' mk As.toArray, t, U', L, E, ce, hT, X', hL, e1, e2, hq, hce, hcv, vx_cls hW₁ hcl, st⟩
end Runs
section Rows
variable {p : Program} {l : Launch} {e : Env} {R : Room} {s : State} {m : MethodId} {args : Array Value} {below : List Frame} {meth : Method} {c : Code} {H : Heap} {locs : List Loc} {cells slots : Nat} {Q : State → Prop}
variable {mc ms : Nat} {free : Addr → Prop} {A0 A1 : Nat → Prop} {H0 : Heap} {a : Array Value} {pc : Nat} {ls : Array Slot} {st0 rest : List Value}
theorem vx_keep {st₀ t T' : State} {L : List Loc} (h0 : st₀.heap = H) (e1 : T'.heap = t.heap) (hS : va_S A0 H0 H locs) (hA : ∀ q, q < H.size → A1 q → A0 q) (hf : ∀ q, free q → A0 q) (hL : ∀ q ∈ L, free q.base) (hF : va_F A1 st₀ t) :
    H.size ≤ T'.heap.size ∧ (∀ q : Nat, q < H.size → ¬ A1 q → T'.heap[q]? = H[q]?) ∧ va_S A0 H0 T'.heap (locs ++ L) := by
  obtain ⟨hz, hk⟩ := hF
  rw [h0] at hz hk
  exact ⟨by rw [e1]; exact hz, fun q h1 h2 => by rw [e1]; exact hk q h1 h2,
    ⟨Nat.le_trans hS.1 (by rw [e1]; exact hz), fun q h1 h2 => by rw [e1, hk q (Nat.lt_of_lt_of_le h1 hS.1) (fun z => h2 (hA q (Nat.lt_of_lt_of_le h1 hS.1) z))]; exact hS.2.1 q h1 h2, fun q hq => by
      rcases List.mem_append.mp hq with h | h
      · exact hS.2.2 q h
      · exact hf _ (hL q h)⟩⟩
theorem vx_calli {S SX : Type} {post : Int32 → S → Prop} {px : SX → Prop} {B : S → State → Prop} {BX : String → SX → State → Prop} {AX : Nat → Prop} (hr : vx_Run p l e R s m args below meth c H locs cells slots mc ms (F0 m pc ls st0) rest (va_Qi post B A1 a) (vx_X px BX AX) free) (hS : va_S A0 H0 H locs) (hA : ∀ q, q < H.size → A1 q → A0 q) (hf : ∀ q, free q → A0 q) (hAX : ∀ q, q < H.size → AX q → A0 q)
    (kx : ∀ (E : String) (ce : Cell) (q9 : Addr) (u : SX) (t : State) (H1 : Heap) (locs1 : List Loc), t.heap = H1 → s.vm.Alike t.vm → px u → BX E u t → H.size ≤ H1.size → (∀ q : Nat, q < H.size → ¬ AX q → H1[q]? = H[q]?) → va_S A0 H0 H1 locs1 → H1[q9]? = some ce → ce.vm = .none → s.vm.findClass E = some ce.cls → vx_W p l e R s m args below meth c H1 locs1 (cells + mc) (slots + ms) Q (F0 m pc ls rest) q9)
    (kk : ∀ (r : Int32) (u : S) (t : State) (H1 : Heap) (locs1 : List Loc), t.heap = H1 → s.vm.Alike t.vm → post r u → B u t → H.size ≤ H1.size → (∀ q : Nat, q < H.size → ¬ A1 q → H1[q]? = H[q]?) → va_S A0 H0 H1 locs1 → W p l e R s m args below meth c H1 locs1 (cells + mc) (slots + ms) Q (F0 m (pc + 3) ls (.int r :: rest))) : W p l e R s m args below meth c H locs cells slots Q (F0 m pc ls st0) := by
  intro T hT X
  rcases hr T hT X with ⟨v, st₀, t, T', L, h0, X', hL, e1, e2, ⟨⟨r, u, hv, hp, hb⟩, hF⟩, st⟩ | ⟨q, st₀, t, T', L, E, ce, h0, X', hL, e1, e2, ⟨u, hp, hb, hF⟩, hce, hcv, hcl, st⟩
  · cases hv
    obtain ⟨k1, k2, k3⟩ := vx_keep h0 e1 hS hA hf hL hF
    obtain ⟨t2, a1, b1⟩ := kk r u t T'.heap (locs ++ L) e1.symm (by rw [← e2]; exact X'.warmed.alike) hp hb k1 k2 k3 T' rfl X'
    exact ⟨t2, st t2 a1, b1⟩
  · obtain ⟨k1, k2, k3⟩ := vx_keep h0 e1 hS hAX hf hL hF
    obtain ⟨t2, a1, b1⟩ := kx E ce q u t T'.heap (locs ++ L) e1.symm (by rw [← e2]; exact X'.warmed.alike) hp hb k1 k2 k3 (by rw [e1]; exact hce) hcv hcl T' rfl X'
    exact ⟨t2, st.trans a1, b1⟩
theorem vx_calll {S SX : Type} {post : Int64 → S → Prop} {px : SX → Prop} {B : S → State → Prop} {BX : String → SX → State → Prop} {AX : Nat → Prop} (hr : vx_Run p l e R s m args below meth c H locs cells slots mc ms (F0 m pc ls st0) rest (va_Ql post B A1 a) (vx_X px BX AX) free) (hS : va_S A0 H0 H locs) (hA : ∀ q, q < H.size → A1 q → A0 q) (hf : ∀ q, free q → A0 q) (hAX : ∀ q, q < H.size → AX q → A0 q)
    (kx : ∀ (E : String) (ce : Cell) (q9 : Addr) (u : SX) (t : State) (H1 : Heap) (locs1 : List Loc), t.heap = H1 → s.vm.Alike t.vm → px u → BX E u t → H.size ≤ H1.size → (∀ q : Nat, q < H.size → ¬ AX q → H1[q]? = H[q]?) → va_S A0 H0 H1 locs1 → H1[q9]? = some ce → ce.vm = .none → s.vm.findClass E = some ce.cls → vx_W p l e R s m args below meth c H1 locs1 (cells + mc) (slots + ms) Q (F0 m pc ls rest) q9)
    (kk : ∀ (r : Int64) (u : S) (t : State) (H1 : Heap) (locs1 : List Loc), t.heap = H1 → s.vm.Alike t.vm → post r u → B u t → H.size ≤ H1.size → (∀ q : Nat, q < H.size → ¬ A1 q → H1[q]? = H[q]?) → va_S A0 H0 H1 locs1 → W p l e R s m args below meth c H1 locs1 (cells + mc) (slots + ms) Q (F0 m (pc + 3) ls (.long r :: rest))) : W p l e R s m args below meth c H locs cells slots Q (F0 m pc ls st0) := by
  intro T hT X
  rcases hr T hT X with ⟨v, st₀, t, T', L, h0, X', hL, e1, e2, ⟨⟨r, u, hv, hp, hb⟩, hF⟩, st⟩ | ⟨q, st₀, t, T', L, E, ce, h0, X', hL, e1, e2, ⟨u, hp, hb, hF⟩, hce, hcv, hcl, st⟩
  · cases hv
    obtain ⟨k1, k2, k3⟩ := vx_keep h0 e1 hS hA hf hL hF
    obtain ⟨t2, a1, b1⟩ := kk r u t T'.heap (locs ++ L) e1.symm (by rw [← e2]; exact X'.warmed.alike) hp hb k1 k2 k3 T' rfl X'
    exact ⟨t2, st t2 a1, b1⟩
  · obtain ⟨k1, k2, k3⟩ := vx_keep h0 e1 hS hAX hf hL hF
    obtain ⟨t2, a1, b1⟩ := kx E ce q u t T'.heap (locs ++ L) e1.symm (by rw [← e2]; exact X'.warmed.alike) hp hb k1 k2 k3 (by rw [e1]; exact hce) hcv hcl T' rfl X'
    exact ⟨t2, st.trans a1, b1⟩
theorem vx_callf {S SX : Type} {post : UInt32 → S → Prop} {px : SX → Prop} {B : S → State → Prop} {BX : String → SX → State → Prop} {AX : Nat → Prop} (hr : vx_Run p l e R s m args below meth c H locs cells slots mc ms (F0 m pc ls st0) rest (va_Qf post B A1 a) (vx_X px BX AX) free) (hS : va_S A0 H0 H locs) (hA : ∀ q, q < H.size → A1 q → A0 q) (hf : ∀ q, free q → A0 q) (hAX : ∀ q, q < H.size → AX q → A0 q)
    (kx : ∀ (E : String) (ce : Cell) (q9 : Addr) (u : SX) (t : State) (H1 : Heap) (locs1 : List Loc), t.heap = H1 → s.vm.Alike t.vm → px u → BX E u t → H.size ≤ H1.size → (∀ q : Nat, q < H.size → ¬ AX q → H1[q]? = H[q]?) → va_S A0 H0 H1 locs1 → H1[q9]? = some ce → ce.vm = .none → s.vm.findClass E = some ce.cls → vx_W p l e R s m args below meth c H1 locs1 (cells + mc) (slots + ms) Q (F0 m pc ls rest) q9)
    (kk : ∀ (r : UInt32) (u : S) (t : State) (H1 : Heap) (locs1 : List Loc), t.heap = H1 → s.vm.Alike t.vm → post r u → B u t → H.size ≤ H1.size → (∀ q : Nat, q < H.size → ¬ A1 q → H1[q]? = H[q]?) → va_S A0 H0 H1 locs1 → W p l e R s m args below meth c H1 locs1 (cells + mc) (slots + ms) Q (F0 m (pc + 3) ls (.float r :: rest))) : W p l e R s m args below meth c H locs cells slots Q (F0 m pc ls st0) := by
  intro T hT X
  rcases hr T hT X with ⟨v, st₀, t, T', L, h0, X', hL, e1, e2, ⟨⟨r, u, hv, hp, hb⟩, hF⟩, st⟩ | ⟨q, st₀, t, T', L, E, ce, h0, X', hL, e1, e2, ⟨u, hp, hb, hF⟩, hce, hcv, hcl, st⟩
  · cases hv
    obtain ⟨k1, k2, k3⟩ := vx_keep h0 e1 hS hA hf hL hF
    obtain ⟨t2, a1, b1⟩ := kk r u t T'.heap (locs ++ L) e1.symm (by rw [← e2]; exact X'.warmed.alike) hp hb k1 k2 k3 T' rfl X'
    exact ⟨t2, st t2 a1, b1⟩
  · obtain ⟨k1, k2, k3⟩ := vx_keep h0 e1 hS hAX hf hL hF
    obtain ⟨t2, a1, b1⟩ := kx E ce q u t T'.heap (locs ++ L) e1.symm (by rw [← e2]; exact X'.warmed.alike) hp hb k1 k2 k3 (by rw [e1]; exact hce) hcv hcl T' rfl X'
    exact ⟨t2, st.trans a1, b1⟩
theorem vx_calld {S SX : Type} {post : UInt64 → S → Prop} {px : SX → Prop} {B : S → State → Prop} {BX : String → SX → State → Prop} {AX : Nat → Prop} (hr : vx_Run p l e R s m args below meth c H locs cells slots mc ms (F0 m pc ls st0) rest (va_Qd post B A1 a) (vx_X px BX AX) free) (hS : va_S A0 H0 H locs) (hA : ∀ q, q < H.size → A1 q → A0 q) (hf : ∀ q, free q → A0 q) (hAX : ∀ q, q < H.size → AX q → A0 q)
    (kx : ∀ (E : String) (ce : Cell) (q9 : Addr) (u : SX) (t : State) (H1 : Heap) (locs1 : List Loc), t.heap = H1 → s.vm.Alike t.vm → px u → BX E u t → H.size ≤ H1.size → (∀ q : Nat, q < H.size → ¬ AX q → H1[q]? = H[q]?) → va_S A0 H0 H1 locs1 → H1[q9]? = some ce → ce.vm = .none → s.vm.findClass E = some ce.cls → vx_W p l e R s m args below meth c H1 locs1 (cells + mc) (slots + ms) Q (F0 m pc ls rest) q9)
    (kk : ∀ (r : UInt64) (u : S) (t : State) (H1 : Heap) (locs1 : List Loc), t.heap = H1 → s.vm.Alike t.vm → post r u → B u t → H.size ≤ H1.size → (∀ q : Nat, q < H.size → ¬ A1 q → H1[q]? = H[q]?) → va_S A0 H0 H1 locs1 → W p l e R s m args below meth c H1 locs1 (cells + mc) (slots + ms) Q (F0 m (pc + 3) ls (.double r :: rest))) : W p l e R s m args below meth c H locs cells slots Q (F0 m pc ls st0) := by
  intro T hT X
  rcases hr T hT X with ⟨v, st₀, t, T', L, h0, X', hL, e1, e2, ⟨⟨r, u, hv, hp, hb⟩, hF⟩, st⟩ | ⟨q, st₀, t, T', L, E, ce, h0, X', hL, e1, e2, ⟨u, hp, hb, hF⟩, hce, hcv, hcl, st⟩
  · cases hv
    obtain ⟨k1, k2, k3⟩ := vx_keep h0 e1 hS hA hf hL hF
    obtain ⟨t2, a1, b1⟩ := kk r u t T'.heap (locs ++ L) e1.symm (by rw [← e2]; exact X'.warmed.alike) hp hb k1 k2 k3 T' rfl X'
    exact ⟨t2, st t2 a1, b1⟩
  · obtain ⟨k1, k2, k3⟩ := vx_keep h0 e1 hS hAX hf hL hF
    obtain ⟨t2, a1, b1⟩ := kx E ce q u t T'.heap (locs ++ L) e1.symm (by rw [← e2]; exact X'.warmed.alike) hp hb k1 k2 k3 (by rw [e1]; exact hce) hcv hcl T' rfl X'
    exact ⟨t2, st.trans a1, b1⟩
theorem vx_callv {S SX : Type} {post : S → Prop} {px : SX → Prop} {B : S → State → Prop} {BX : String → SX → State → Prop} {AX : Nat → Prop} (hr : vx_Run p l e R s m args below meth c H locs cells slots mc ms (F0 m pc ls st0) rest (va_Qv post B A1 a) (vx_X px BX AX) free) (hS : va_S A0 H0 H locs) (hA : ∀ q, q < H.size → A1 q → A0 q) (hf : ∀ q, free q → A0 q) (hAX : ∀ q, q < H.size → AX q → A0 q)
    (kx : ∀ (E : String) (ce : Cell) (q9 : Addr) (u : SX) (t : State) (H1 : Heap) (locs1 : List Loc), t.heap = H1 → s.vm.Alike t.vm → px u → BX E u t → H.size ≤ H1.size → (∀ q : Nat, q < H.size → ¬ AX q → H1[q]? = H[q]?) → va_S A0 H0 H1 locs1 → H1[q9]? = some ce → ce.vm = .none → s.vm.findClass E = some ce.cls → vx_W p l e R s m args below meth c H1 locs1 (cells + mc) (slots + ms) Q (F0 m pc ls rest) q9)
    (kk : ∀ (u : S) (t : State) (H1 : Heap) (locs1 : List Loc), t.heap = H1 → s.vm.Alike t.vm → post u → B u t → H.size ≤ H1.size → (∀ q : Nat, q < H.size → ¬ A1 q → H1[q]? = H[q]?) → va_S A0 H0 H1 locs1 → W p l e R s m args below meth c H1 locs1 (cells + mc) (slots + ms) Q (F0 m (pc + 3) ls (rest))) : W p l e R s m args below meth c H locs cells slots Q (F0 m pc ls st0) := by
  intro T hT X
  rcases hr T hT X with ⟨v, st₀, t, T', L, h0, X', hL, e1, e2, ⟨⟨u, hv, hp, hb⟩, hF⟩, st⟩ | ⟨q, st₀, t, T', L, E, ce, h0, X', hL, e1, e2, ⟨u, hp, hb, hF⟩, hce, hcv, hcl, st⟩
  · cases hv
    obtain ⟨k1, k2, k3⟩ := vx_keep h0 e1 hS hA hf hL hF
    obtain ⟨t2, a1, b1⟩ := kk u t T'.heap (locs ++ L) e1.symm (by rw [← e2]; exact X'.warmed.alike) hp hb k1 k2 k3 T' rfl X'
    exact ⟨t2, st t2 a1, b1⟩
  · obtain ⟨k1, k2, k3⟩ := vx_keep h0 e1 hS hAX hf hL hF
    obtain ⟨t2, a1, b1⟩ := kx E ce q u t T'.heap (locs ++ L) e1.symm (by rw [← e2]; exact X'.warmed.alike) hp hb k1 k2 k3 (by rw [e1]; exact hce) hcv hcl T' rfl X'
    exact ⟨t2, st.trans a1, b1⟩
/-- caught by the row x of this method's table; the rows ahead don't take it -/
theorem vx_catch {own name : String} {E : String} {ce : Cell} {q : Addr} (hown : s.vm.findClass own = some m.cls) (pre : List ExceptionTableEntry) (x : ExceptionTableEntry) (suf : List ExceptionTableEntry) (hsplit : c.exceptionTable.toList = pre ++ x :: suf)
    (hpass : ∀ z ∈ pre, covers z pc = false ∨ (z.catchType ≠ 0 ∧ ∃ nm : String, (Cond.classLink own z.catchType nm).before args s = true ∧ va_Nc E nm s)) (hx : covers x pc = true) (h0 : x.catchType ≠ 0)
    (hlink : (Cond.classLink own x.catchType name).before args s = true) (hcast : (Cond.castable E name).before args s = true) (hcell : H[q]? = some ce) (hv : ce.vm = .none) (hcl : s.vm.findClass E = some ce.cls)
    (kk : W p l e R s m args below meth c H locs cells slots Q (F0 m x.handlerPc ls [.ref q])) : vx_W p l e R s m args below meth c H locs cells slots Q (F0 m pc ls rest) q := by
  intro T hT X
  have hpl : e.platform.magicAccessors = ({} : Platform).magicAccessors := by rw [X.admits.platform]
  obtain ⟨c3, c4, hc3, hc4, hasg⟩ := Cond.castable_spec hcast
  cases Option.some.inj (hc3.symm.trans hcl)
  obtain ⟨c5, hc5, hcl5⟩ := Cond.classLink_spec hown hlink e.platform hpl
  cases Option.some.inj (hc4.symm.trans hc5)
  obtain ⟨vm', X', st⟩ := X.thenCaughtThrough q (g := F0 m pc ls rest) rfl (Steps.refl _) (by rw [hT]; exact hcell) (by rw [hv]; rfl) (by obtain ⟨k9, h9, -⟩ := Vm.findClass_spec hcl; exact ⟨k9, h9⟩) pre x suf hsplit
    (fun z hz => by
      rcases hpass z hz with h | ⟨hz0, nm, hl1, hn1⟩
      · exact Or.inl h
      · obtain ⟨c6, hc6, hcl6⟩ := Cond.classLink_spec hown hl1 e.platform hpl
        obtain ⟨a8, b8, h1, h2, h3⟩ := hn1
        cases Option.some.inj (h1.symm.trans hcl)
        cases Option.some.inj (h2.symm.trans hc6)
        exact Or.inr ⟨hz0, _, hcl6, h3⟩) hx (Or.inr ⟨h0, c4, hcl5, hasg⟩)
  obtain ⟨t, a1, b1⟩ := kk (T.setVm vm') hT X'
  exact ⟨t, st.trans a1, b1⟩
end Rows
section Ends
variable {p : Program} {l : Launch} {e : Env} {R : Room} {s : State} {m : MethodId} {args : Array Value} {below : List Frame} {meth : Method} {c : Code} {H : Heap} {locs : List Loc} {cells slots : Nat} {Q : State → Prop}
variable {mc ms : Nat} {free : Addr → Prop} {A0 A1 : Nat → Prop} {H0 : Heap} {a : Array Value} {ls : Array Slot} {st0 rest : List Value}
variable {Qc : Array Value → State → Outcome → State → Prop} {XC : String → State → State → Prop}
/-- what a body that may throw owes at its end -/
def vx_MQ (below : List Frame) (Qc : Array Value → State → Outcome → State → Prop) (XC : String → State → State → Prop) (a : Array Value) (s : State) (mc ms : Nat) (free : Addr → Prop) : State → Prop := fun t =>
  ∃ o, t.status = .running ∧ Ended t below o ∧ vx_Q Qc XC mc ms free a s o t
theorem vx_ret {g : JFrame} {mc ms : Nat} (k : W p l e R s m args below meth c H locs cells slots (MQ below Qc args s mc ms free) g) : W p l e R s m args below meth c H locs cells slots (vx_MQ below Qc XC args s mc ms free) g := by
  intro T hT X
  obtain ⟨t, a1, o, b1, b2, b3, b4⟩ := k T hT X
  exact ⟨t, a1, o, b1, b2, Or.inl ⟨b3, b4⟩⟩
/-- not caught here: it goes on to the caller -/
theorem vx_widen {g : JFrame} {q : Addr} {k n : Nat} (h1 : cells ≤ k) (h2 : slots ≤ n) (kk : vx_W p l e R s m args below meth c H locs k n Q g q) : vx_W p l e R s m args below meth c H locs cells slots Q g q := fun T hT X => kk T hT (stand_widen X h1 h2)
theorem vx_out {pc : Nat} {E : String} {ce : Cell} {q : Addr} {mc ms : Nat} (hout : ∀ x ∈ c.exceptionTable.toList, covers x pc = false) (hlocks : meth.locks = false) (hcell : H[q]? = some ce) (hv : ce.vm = .none) (hcl : s.vm.findClass E = some ce.cls)
    (hx : ∀ t : State, t.heap = H → s.vm.Alike t.vm → XC E s t) (hf : ∀ z ∈ locs, free z.base) (hc : cells ≤ mc) (hs : slots ≤ ms) :
    vx_W p l e R s m args below meth c H locs cells slots (vx_MQ below Qc XC args s mc ms free) (F0 m pc ls rest) q := by
  intro T hT X
  obtain ⟨st1, hrun, hend, hW, hsm⟩ := X.leaveThrown q (g := F0 m pc ls rest) rfl rfl rfl hout hlocks
  have hcell9 : (T.setFrames (.throwing q :: below)).heap[q]? = some ce := by
    show T.heap[q]? = some ce
    rw [hT]; exact hcell
  exact ⟨_, st1, .threw q, hrun, hend, Or.inr ⟨q, rfl, E, ce, locs, hx _ hT hW.alike, hcell9, hv, hcl, hW, hsm.mono hc hs, hf⟩⟩
theorem vx_frame {U : State} {k n : Nat} (h : s.sameButNew ({ U with vm := s.vm } : State) locs k n) : s.heap.size ≤ U.heap.size ∧ ∀ q : Nat, q < s.heap.size → (∀ z ∈ locs, z.base ≠ q) → U.heap[q]? = s.heap[q]? := by
  obtain ⟨-, h2, -, -, -, h6⟩ := h
  refine ⟨h2, fun q hq hz => ?_⟩
  obtain ⟨c9, e1, e2, e3, e4⟩ := h6 q _ (Array.getElem?_eq_getElem hq)
  have hs : c9.slots = (s.heap[q]).slots := Array.ext_getElem? fun i => e4 i fun hm => hz _ hm rfl
  have h9 : c9 = s.heap[q] := by
    rw [hs] at e2
    exact e2
  have e5 : U.heap[q]? = some c9 := e1
  rw [e5, h9, Array.getElem?_eq_getElem hq]
/-- the words of a throw but the four that speak of the heap -/
def vx_no (w : Cond) : Bool := decide (w ≠ .isRef (.static Bundle.tN "UNASSIGNED_STACK" Bundle.steD)) && decide (w ≠ .isRef (.static Bundle.tN "SUPPRESSED_SENTINEL" Bundle.listD)) && decide (w ≠ .laysStatic Bundle.tN "UNASSIGNED_STACK" Bundle.steD) && decide (w ≠ .laysStatic Bundle.tN "SUPPRESSED_SENTINEL" Bundle.listD)
def vx_at0 (own : String) (ic : Nat) (X : String) (names : List String) : List Cond := (Bundle.ownAtoms0 own ic X names).filter vx_no
def vx_atS (own : String) (ic : Nat) (X : String) (names : List String) : List Cond := (Bundle.ownAtoms own ic X names).filter vx_no
/-- a word that the tables alone decide, or a good one -/
def vx_ot (w : Cond) : Bool := w.onTables || goodWord w
theorem vx_ot_at {args a' : Array Value} {s U : State} {w : Cond} (hW : s.WarmedH U.vm) (hvm : s.vm = U.vm) (hg : vx_ot w = true) (h : w.before args s = true) : w.before a' U = true := by
  simp only [vx_ot, Bool.or_eq_true] at hg
  rcases hg with hg | hg
  · exact va_tabs hg hvm h
  · exact word_at hW (good_of_word hg) h
/-- a list's words: the good ones out of the method's own list, the others by premises of their own -/
theorem vx_hat {args : Array Value} {s : State} {L B : List Cond} (h1 : ∀ w ∈ L.filter goodWord, w.before args s = true) (h2 : ∀ w ∈ L.filter (fun w => !goodWord w), w ∈ B) (h3 : ∀ w ∈ B, w.before args s = true) : ∀ w ∈ L, w.before args s = true := by
  intro w hw
  by_cases g : goodWord w = true
  · exact h1 w (List.mem_filter.mpr ⟨hw, g⟩)
  · refine h3 w (h2 w (List.mem_filter.mpr ⟨hw, ?_⟩))
    show (!goodWord w) = true
    cases hgw : goodWord w
    · rfl
    · exact absurd hgw g
theorem vx_c {args : Array Value} {s : State} {w : Cond} {B : List Cond} (h : w.before args s = true) (t : ∀ w ∈ B, w.before args s = true) : ∀ w' ∈ w :: B, w'.before args s = true := fun w' h' => (List.mem_cons.mp h').elim (fun e => by rw [e]; exact h) (t w')
theorem vx_n {args : Array Value} {s : State} : ∀ w ∈ ([] : List Cond), w.before args s = true := fun _ h => nomatch h
theorem vx_own {args : Array Value} {s : State} {L : List Cond} (h1 : ∀ w ∈ L.filter vx_no, w.before args s = true)
    (hU : (Cond.isRef (.static Bundle.tN "UNASSIGNED_STACK" Bundle.steD)).before args s = true) (hN : (Cond.isRef (.static Bundle.tN "SUPPRESSED_SENTINEL" Bundle.listD)).before args s = true)
    (lU : (Cond.laysStatic Bundle.tN "UNASSIGNED_STACK" Bundle.steD).before args s = true) (lN : (Cond.laysStatic Bundle.tN "SUPPRESSED_SENTINEL" Bundle.listD).before args s = true) : ∀ w ∈ L, w.before args s = true := by
  intro w hw
  by_cases e1 : w = .isRef (.static Bundle.tN "UNASSIGNED_STACK" Bundle.steD)
  · rw [e1]; exact hU
  · by_cases e2 : w = .isRef (.static Bundle.tN "SUPPRESSED_SENTINEL" Bundle.listD)
    · rw [e2]; exact hN
    · by_cases e3 : w = .laysStatic Bundle.tN "UNASSIGNED_STACK" Bundle.steD
      · rw [e3]; exact lU
      · by_cases e4 : w = .laysStatic Bundle.tN "SUPPRESSED_SENTINEL" Bundle.listD
        · rw [e4]; exact lN
        · exact h1 w (List.mem_filter.mpr ⟨hw, by unfold vx_no; rw [decide_eq_true e1, decide_eq_true e2, decide_eq_true e3, decide_eq_true e4]; rfl⟩)
/-- where a static field lies, its class's statics cell in H -/
def vx_L (C n d : String) (A : Nat → Prop) (U : State) (H : Heap) : Prop := ∃ (c : ClassId) (k : Class) (i : Nat) (f : Field) (a : Nat) (cell : Cell), U.vm.findClass C = some c ∧ U.fieldFound? C n d = some (c, k, i, f) ∧ f.isStatic = true ∧ k.statics = some a ∧ H[a]? = some cell ∧ cell.vm.isStatics = true ∧ cell.cls = c ∧ f.slot < cell.slots.size ∧ k.staticTypes[f.slot]? = some f.type ∧ ¬ A a
theorem vx_L.moved {C n d : String} {A : Nat → Prop} {u U : State} {H : Heap} (hvm : u.vm.Alike U.vm) (h : vx_L C n d A u H) : vx_L C n d A U H := by
  obtain ⟨c, k, i, f, a, cell, h1, h2, h3, h4, h5, h6, h7, h8, h9, h10⟩ := h
  obtain ⟨k', hi', he⟩ := State.fieldFound?_setVm hvm h2
  exact ⟨c, k', i, f, a, cell, by rw [hvm.findClass]; exact h1, hi', h3, by rw [he]; exact h4, h5, h6, h7, h8, by rw [he]; exact h9, h10⟩
theorem vx_L.kept {C n d : String} {A : Nat → Prop} {U : State} {H H1 : Heap} (h : vx_L C n d A U H) (hq : ∀ a : Nat, a < H.size → ¬ A a → H1[a]? = H[a]?) : vx_L C n d A U H1 := by
  obtain ⟨c, k, i, f, a, cell, h1, h2, h3, h4, h5, h6, h7, h8, h9, h10⟩ := h
  exact ⟨c, k, i, f, a, cell, h1, h2, h3, h4, by rw [hq a (Array.getElem?_eq_some_iff.mp h5).1 h10]; exact h5, h6, h7, h8, h9, h10⟩
theorem vx_L.narrow {C n d : String} {A B : Nat → Prop} {U : State} {H : Heap} (h : vx_L C n d A U H) (hAB : ∀ q, B q → A q) : vx_L C n d B U H := by
  obtain ⟨c, k, i, f, a, cell, h1, h2, h3, h4, h5, h6, h7, h8, h9, h10⟩ := h
  exact ⟨c, k, i, f, a, cell, h1, h2, h3, h4, h5, h6, h7, h8, h9, fun z => h10 (hAB _ z)⟩
theorem vx_L.word {C n d : String} {A : Nat → Prop} {s : State} {args : Array Value} (h : vx_L C n d A s s.heap) : (Cond.laysStatic C n d).before args s = true := by
  obtain ⟨c, k, i, f, a, cell, h1, h2, h3, h4, h5, h6, h7, h8, h9, -⟩ := h
  show (Cond.laysStatic C n d).holds args s none s [] = true
  exact Cond.laysStatic_of h1 h2 h3 h4 h5 h6 h7 h8 h9
/-- .. and what it holds: null or some reference -/
def vx_Zq (C n d : String) (A : Nat → Prop) (U : State) (H : Heap) : Prop := va_Zq C n d A U H ∧ vx_L C n d A U H
theorem vx_Zq.moved {C n d : String} {A : Nat → Prop} {u U : State} {H : Heap} (hvm : u.vm.Alike U.vm) (h : vx_Zq C n d A u H) : vx_Zq C n d A U H := ⟨va_Zq.moved hvm h.1, vx_L.moved hvm h.2⟩
theorem vx_Zq.kept {C n d : String} {A : Nat → Prop} {U : State} {H H1 : Heap} (h : vx_Zq C n d A U H) (hq : ∀ a : Nat, a < H.size → ¬ A a → H1[a]? = H[a]?) : vx_Zq C n d A U H1 := ⟨va_Zq.kept h.1 hq, vx_L.kept h.2 hq⟩
theorem vx_Zq.narrow {C n d : String} {A B : Nat → Prop} {U : State} {H : Heap} (h : vx_Zq C n d A U H) (hAB : ∀ q, B q → A q) : vx_Zq C n d B U H := ⟨va_Zq.narrow h.1 hAB, vx_L.narrow h.2 hAB⟩
theorem vx_Zqof {args : Array Value} {s : State} {C n d : String} {A : Nat → Prop} (hl : (Cond.laysStatic C n d).before args s = true) (hini : (Cond.initialized C).before args s = true) (h : (Cond.isRef (.static C n d)).before args s = true) (hA : ∀ a : Nat, a < s.heap.size → ¬ A a) : vx_Zq C n d A s s.heap := by
  refine ⟨va_Zqof hl hini h hA, ?_⟩
  obtain ⟨c, k, i, f, a, cell, h1, h2, h3, h4, h5, h6, h7, h8, h9⟩ := Cond.laysStatic_spec hl
  exact ⟨c, k, i, f, a, cell, h1, h2, h3, h4, h5, h6, h7, h8, h9, hA a (Array.getElem?_eq_some_iff.mp h5).1⟩
theorem vx_isRef {C n d : String} {v : Value} {A : Nat → Prop} {s : State} {args : Array Value} (h : va_Z C n d v A s s.heap) (hv : v.isRef = true) : (Cond.isRef (.static C n d)).before args s = true := by
  obtain ⟨cf, kf, fi, f, a, cell, h1, h2, h3, h4, h5, h6, h7, -⟩ := h
  have he : (Term.static C n d).eval args s none [] s = some v := by
    simp [Term.eval, State.fieldNamed?, h1, h2, h4, h5, h6, h7]
  simp only [Cond.before, Cond.holds, Cond.value, he]
  cases v <;> simp_all [Value.isRef]
theorem vx_isRefq {C n d : String} {A : Nat → Prop} {s : State} {args : Array Value} (h : va_Zq C n d A s s.heap) : (Cond.isRef (.static C n d)).before args s = true := by
  rcases h with h | ⟨t, h⟩
  · exact vx_isRef h rfl
  · exact vx_isRef h rfl
/-- the same frame, seen from here: as if the method were called anew in this heap -/
theorem vx_rebase {T : State} (X : Stand p l e R s m args below meth c T locs cells slots) {R' : Room} (hf : R'.frames ≤ R.frames) (hl : R'.locals ≤ R.locals) (hc : cells + R'.cells ≤ R.cells) (hs : slots + R'.slots ≤ R.slots) :
    Stand p l e R' ((T.setVm s.vm).setFrames (.invoking m args :: below)) m args below meth c T [] 0 0 := by
  have htop : (T.setVm s.vm).topJava?.isSome := X.here.top
  have hF : ((T.setVm s.vm).setFrames (.invoking m args :: below)).frames = .invoking m args :: below := State.frames_setFrames _ (State.cur_lt_of_top htop)
  obtain ⟨g₀, hg0⟩ := Option.isSome_iff_exists.mp htop
  obtain ⟨r, hr⟩ := State.topJava?_eq_some.mp hg0
  have hl9 : e.platform.stackLimits (T.setVm s.vm).me = e.platform.stackLimits s.me := X.limits
  have hb9 : (T.setVm s.vm).me.stackBytes = s.me.stackBytes := X.bytes
  refine ⟨X.admits, X.cas, X.clock, hF, ?_, X.hears, X.method, X.code, X.here, X.tail, X.warmed, ?_, ?_, ?_⟩
  · have h := X.room
    have hU : ((T.setVm s.vm).setFrames (.invoking m args :: below)).localsInUse = s.localsInUse := by
      rw [State.localsInUse_invoking hF (meth := meth) (c := c) X.method X.code, State.localsInUse_invoking X.frames X.method X.code]
    simp only [State.hasRoom, Bool.and_eq_true, decide_eq_true_eq] at h ⊢
    obtain ⟨⟨⟨⟨h1, h2, h3, h4, h5, h6⟩, h7⟩, h8⟩, h9⟩ := h
    rw [X.frames, List.length_cons] at h2 h3
    have q1 := X.heapSize
    have q2 := X.used
    simp only [hF, hU, List.length_cons, State.stackLimits_setFrames, State.stackBytes_setFrames, hl9, hb9]
    refine ⟨⟨⟨⟨by omega, by omega, by omega, by omega, by omega, h6⟩, ?_⟩, ?_⟩, X.book⟩
    · show T.heap.size + R'.cells ≤ e.platform.maxCells
      omega
    · show T.slotsUsed + R'.slots ≤ e.platform.maxSlots
      omega
  · rw [State.stackLimits_setFrames]; rfl
  · rw [State.stackBytes_setFrames]; rfl
  · refine ⟨?_, Nat.le_refl _, Nat.le_refl _, ?_, ?_, fun a c9 h9 => ⟨c9, h9, rfl, rfl, fun _ _ => rfl⟩⟩
    · obtain ⟨t, ht, -⟩ := State.frames_cons hr
      show T.setVm s.vm = { ((T.setVm s.vm).setFrames (.invoking m args :: below)).setFrames (T.setVm s.vm).frames with heap := T.heap, slotsUsed := T.slotsUsed }
      rw [State.setFrames_setFrames, State.setFrames_self ht]
      rfl
    · show T.slotsUsed = T.slotsUsed + ((T.heap.toList.drop T.heap.size).map (·.slots.size)).sum
      rw [List.drop_eq_nil_of_le (Nat.le_of_eq Array.length_toList)]
      rfl
    · show ((T.heap.toList.drop T.heap.size).map (·.slots.size)).sum ≤ 0
      rw [List.drop_eq_nil_of_le (Nat.le_of_eq Array.length_toList)]
      exact Nat.le_refl _
/-- 'throw new E()': new; dup; invokespecial; athrow -/
theorem vx_throw0 {cc : ByteArray} {pc : Nat} (hexec : p.tables.exec = Jvm.exec) (hb : c.code = cc) (hl : l.stackTraces = false) {own cls : String} {names : List String} {ik ic mc ms : Nat} {A : Nat → Prop}
    (hown : s.vm.findClass own = some m.cls) (hcls : Bundle.fit cls = true) (hnames : ∀ n ∈ names, Bundle.fit n = true)
    (hk : (Cond.classLink own ik cls).before args s = true) (hini : (Cond.initialized cls).before args s = true) (hat : ∀ w ∈ vx_at0 own ic cls names, w.before args s = true)
    (hgood : ∀ w ∈ Cond.classLink own ik cls :: Cond.initialized cls :: vx_at0 own ic cls names, vx_ot w = true)
    (hU : vx_Zq Bundle.tN "UNASSIGNED_STACK" Bundle.steD A s s.heap) (hN : vx_Zq Bundle.tN "SUPPRESSED_SENTINEL" Bundle.listD A s s.heap) (hS : va_S A s.heap H locs) (hsize : ls.size = c.maxLocals)
    (d0 : decode cc pc = .ok (.new ik, 3)) (d3 : decode cc (pc + 3) = .ok (.dup, 1)) (d4 : decode cc (pc + 4) = .ok (.invokespecial ic, 3)) (d7 : decode cc (pc + 7) = .ok (.athrow, 1))
    (hout : ∀ x ∈ c.exceptionTable.toList, covers x (pc + 7) = false)
    (hRframes : names.length + 3 < R.frames) (hRlocals : (rest.map fun v => v.category).sum + (13 * (names.length + 1) + 42) ≤ R.locals) (hRcells : cells + 1 ≤ R.cells) (hRslots : slots + 6 ≤ R.slots) (hlocks : meth.locks = false)
    (hx : ∀ t : State, s.vm.Alike t.vm → H.size ≤ t.heap.size → (∀ q : Nat, q < H.size → t.heap[q]? = H[q]?) → XC cls s t)
    (hf : ∀ z ∈ locs, free z.base) (hc : cells + 1 ≤ mc) (hs : slots + 6 ≤ ms) :
    W p l e R s m args below meth c H locs cells slots (vx_MQ below Qc XC args s mc ms free) (F0 m pc ls rest) := by
  intro T hT X
  have htr : e.platform.stackTraces = false := (show e.platform.stackTraces = l.stackTraces by rw [X.admits.platform]).trans hl
  have Y := vx_rebase X (R' := { frames := R.frames, locals := R.locals, cells := 1, slots := 6 }) (Nat.le_refl _) (Nat.le_refl _) hRcells hRslots
  obtain ⟨s', hA⟩ : ∃ z, z = (T.setVm s.vm).setFrames (.invoking m args :: below) := ⟨_, rfl⟩
  rw [← hA] at Y
  have hvm : s'.vm = s.vm := by rw [hA]; rfl
  have hhp : s'.heap = H := by rw [hA]; exact hT
  have hW0 : s.WarmedH s'.vm := by rw [hvm]; exact State.WarmedH.refl s
  have hat' : ∀ w ∈ vx_at0 own ic cls names, w.before args s' = true := fun w hw => vx_ot_at hW0 hvm.symm (hgood w (List.mem_cons_of_mem _ (List.mem_cons_of_mem _ hw))) (hat w hw)
  have hk' : (Cond.classLink own ik cls).before args s' = true := vx_ot_at hW0 hvm.symm (hgood _ List.mem_cons_self) hk
  have hini' : (Cond.initialized cls).before args s' = true := vx_ot_at hW0 hvm.symm (hgood _ (List.mem_cons_of_mem _ List.mem_cons_self)) hini
  have hU' : vx_Zq Bundle.tN "UNASSIGNED_STACK" Bundle.steD A s' s'.heap := by rw [hhp]; exact vx_Zq.moved hW0.alike (hU.kept hS.2.1)
  have hN' : vx_Zq Bundle.tN "SUPPRESSED_SENTINEL" Bundle.listD A s' s'.heap := by rw [hhp]; exact vx_Zq.moved hW0.alike (hN.kept hS.2.1)
  have h : ∀ w ∈ Bundle.ownAtoms0 own ic cls names, w.before args s' = true := vx_own hat' (vx_isRefq hU'.1) (vx_isRefq hN'.1) hU'.2.word hN'.2.word
  have hown' : s'.vm.findClass own = some m.cls := by rw [hvm]; exact hown
  have hins : (Cond.instantiable cls 6).before args s' = true := h _ (by simp [Bundle.ownAtoms0])
  obtain ⟨vm₁, cX, kX, hfX, hkX, -, -, X₁, st1⟩ := Y.newCold hexec (own := own) (C := cls) (index := ik) (n := 6) hown' hk' hins hini'
    (g := F0 m pc ls rest) rfl (by rw [hb]; exact d0) (Nat.le_refl _) (Nat.le_refl _)
  generalize hT1 : (T.setVm vm₁).pushCell { cls := cX, slots := kX.instanceTypes.map defaultValue, vm := .none } = T1 at X₁ st1
  have hcat : (Value.ref T.heap.size).category = 1 := rfl
  have hcellA : T1.heap[T.heap.size]? = some (freshCell cX kX) := by rw [← hT1]; exact State.heap_pushCell_size _ _
  have d3' : decode c.code (pc + 3) = .ok (.dup, 1) := by rw [hb]; exact d3
  obtain ⟨U, hsteps, hrun, hend, hW, hsame, ce, hce, hO⟩ := X₁.ctorThrow0 hexec htr (own := own) (cls := cls) (names := names) (ic := ic) hown' hcls hnames h (fun x hx => nomatch hx) hfX hkX hcellA (by rw [hhp, hT]; exact Nat.le_refl _)
    (g := { method := m, pc := pc + 4, locals := ls, stack := .ref T.heap.size :: .ref T.heap.size :: rest, locked := none }) rfl hsize rfl rfl (rest := rest) rfl
    (by rw [hb]; exact d4) (by rw [hb]; exact d7) hout hRframes (by simp only [List.map_cons, List.sum_cons, hcat]; omega) hlocks
  obtain ⟨f1, f2⟩ := vx_frame hsame
  rw [hhp] at f1 f2
  have hWs : s.WarmedH U.vm := State.WarmedH.trans hW0 hW
  have hcl : s.vm.findClass cls = some ce.cls := by
    have h9 := hO.cls
    rw [hvm] at h9
    exact h9
  have hall : s.sameButNew ({ U with vm := s.vm } : State) locs mc ms := by
    subst hA
    obtain ⟨e1, e2⟩ := hsame
    rw [State.setFrames_setFrames] at e1
    have h2 : (T.setVm s.vm).sameButNew ({ U with vm := s.vm } : State) [] (0 + 1) (0 + 6) := ⟨e1, e2⟩
    have h3 := X.same.trans h2
    rw [List.append_nil] at h3
    exact h3.mono hc hs
  refine ⟨U, ?_, .threw T.heap.size, hrun, hend, Or.inr ⟨T.heap.size, rfl, cls, ce, locs, hx U hWs.alike f1 (fun q hq => f2 q hq (fun z hz => nomatch hz)), hce, hO.vm, hcl, hWs, hall, hf⟩⟩
  refine st1 _ ?_
  show Steps p.tables e below (T1.setTop { method := m, pc := pc + 3, locals := ls, stack := .ref T.heap.size :: rest, locked := none }) _
  jvm_step X₁.here [X₁.here.top, hexec, d3', Value.category]
  exact hsteps
/-- 'throw new E("text")': new; dup; ldc; invokespecial; athrow -/
theorem vx_throwS {cc : ByteArray} {pc : Nat} (hexec : p.tables.exec = Jvm.exec) (hb : c.code = cc) (hl : l.stackTraces = false) {own cls text : String} {names : List String} {ik is ic mc ms sa : Nat} {A : Nat → Prop}
    (hown : s.vm.findClass own = some m.cls) (hcls : Bundle.fit cls = true) (hnames : ∀ n ∈ names, Bundle.fit n = true)
    (hk : (Cond.classLink own ik cls).before args s = true) (hini : (Cond.initialized cls).before args s = true) (hstr : vk_R own is text sa s) (hat : ∀ w ∈ vx_atS own ic cls names, w.before args s = true)
    (hgood : ∀ w ∈ Cond.classLink own ik cls :: Cond.initialized cls :: vx_atS own ic cls names, vx_ot w = true)
    (hU : vx_Zq Bundle.tN "UNASSIGNED_STACK" Bundle.steD A s s.heap) (hN : vx_Zq Bundle.tN "SUPPRESSED_SENTINEL" Bundle.listD A s s.heap) (hS : va_S A s.heap H locs) (hsize : ls.size = c.maxLocals)
    (d0 : decode cc pc = .ok (.new ik, 3)) (d3 : decode cc (pc + 3) = .ok (.dup, 1)) (d4 : decode cc (pc + 4) = .ok (.ldc is, 2)) (d6 : decode cc (pc + 6) = .ok (.invokespecial ic, 3)) (d9 : decode cc (pc + 9) = .ok (.athrow, 1))
    (hout : ∀ x ∈ c.exceptionTable.toList, covers x (pc + 9) = false)
    (hRframes : names.length + 3 < R.frames) (hRlocals : (rest.map fun v => v.category).sum + (13 * (names.length + 1) + 43) ≤ R.locals) (hRcells : cells + 1 ≤ R.cells) (hRslots : slots + 6 ≤ R.slots) (hlocks : meth.locks = false)
    (hx : ∀ t : State, s.vm.Alike t.vm → H.size ≤ t.heap.size → (∀ q : Nat, q < H.size → t.heap[q]? = H[q]?) → XC cls s t)
    (hf : ∀ z ∈ locs, free z.base) (hc : cells + 1 ≤ mc) (hs : slots + 6 ≤ ms) :
    W p l e R s m args below meth c H locs cells slots (vx_MQ below Qc XC args s mc ms free) (F0 m pc ls rest) := by
  intro T hT X
  have htr : e.platform.stackTraces = false := (show e.platform.stackTraces = l.stackTraces by rw [X.admits.platform]).trans hl
  have Y := vx_rebase X (R' := { frames := R.frames, locals := R.locals, cells := 1, slots := 6 }) (Nat.le_refl _) (Nat.le_refl _) hRcells hRslots
  obtain ⟨s', hA⟩ : ∃ z, z = (T.setVm s.vm).setFrames (.invoking m args :: below) := ⟨_, rfl⟩
  rw [← hA] at Y
  have hvm : s'.vm = s.vm := by rw [hA]; rfl
  have hhp : s'.heap = H := by rw [hA]; exact hT
  have hW0 : s.WarmedH s'.vm := by rw [hvm]; exact State.WarmedH.refl s
  have hat' : ∀ w ∈ vx_atS own ic cls names, w.before args s' = true := fun w hw => vx_ot_at hW0 hvm.symm (hgood w (List.mem_cons_of_mem _ (List.mem_cons_of_mem _ hw))) (hat w hw)
  have hk' : (Cond.classLink own ik cls).before args s' = true := vx_ot_at hW0 hvm.symm (hgood _ List.mem_cons_self) hk
  have hini' : (Cond.initialized cls).before args s' = true := vx_ot_at hW0 hvm.symm (hgood _ (List.mem_cons_of_mem _ List.mem_cons_self)) hini
  have hU' : vx_Zq Bundle.tN "UNASSIGNED_STACK" Bundle.steD A s' s'.heap := by rw [hhp]; exact vx_Zq.moved hW0.alike (hU.kept hS.2.1)
  have hN' : vx_Zq Bundle.tN "SUPPRESSED_SENTINEL" Bundle.listD A s' s'.heap := by rw [hhp]; exact vx_Zq.moved hW0.alike (hN.kept hS.2.1)
  have h : ∀ w ∈ Bundle.ownAtoms own ic cls names, w.before args s' = true := vx_own hat' (vx_isRefq hU'.1) (vx_isRefq hN'.1) hU'.2.word hN'.2.word
  have hown' : s'.vm.findClass own = some m.cls := by rw [hvm]; exact hown
  have hins : (Cond.instantiable cls 6).before args s' = true := h _ (by simp [Bundle.ownAtoms])
  obtain ⟨vm₁, cX, kX, hfX, hkX, -, -, X₁, st1⟩ := Y.newCold hexec (own := own) (C := cls) (index := ik) (n := 6) hown' hk' hins hini'
    (g := F0 m pc ls rest) rfl (by rw [hb]; exact d0) (Nat.le_refl _) (Nat.le_refl _)
  generalize hT1 : (T.setVm vm₁).pushCell { cls := cX, slots := kX.instanceTypes.map defaultValue, vm := .none } = T1 at X₁ st1
  have hcat : (Value.ref T.heap.size).category = 1 := rfl
  have hcellA : T1.heap[T.heap.size]? = some (freshCell cX kX) := by rw [← hT1]; exact State.heap_pushCell_size _ _
  have d3' : decode c.code (pc + 3) = .ok (.dup, 1) := by rw [hb]; exact d3
  have d4' : decode c.code (pc + 4) = .ok (.ldc is, 2) := by rw [hb]; exact d4
  have hstr' : vk_R own is text sa s' := vk_R.warm hW0 hstr
  obtain ⟨U, hsteps, hrun, hend, hW, hsame, ce, hce, hO⟩ := X₁.ctorThrowS hexec htr (own := own) (cls := cls) (names := names) (ic := ic) hown' hcls hnames h (fun x hx => nomatch hx) hfX hkX hcellA (by rw [hhp, hT]; exact Nat.le_refl _) (msg := .ref sa) rfl
    (g := { method := m, pc := pc + 6, locals := ls, stack := .ref sa :: .ref T.heap.size :: .ref T.heap.size :: rest, locked := none }) rfl hsize rfl rfl (rest := rest) rfl
    (by rw [hb]; exact d6) (by rw [hb]; exact d9) hout hRframes (by simp only [List.map_cons, List.sum_cons, hcat]; omega) hlocks
  obtain ⟨f1, f2⟩ := vx_frame hsame
  rw [hhp] at f1 f2
  have hWs : s.WarmedH U.vm := State.WarmedH.trans hW0 hW
  have hcl : s.vm.findClass cls = some ce.cls := by
    have h9 := hO.cls
    rw [hvm] at h9
    exact h9
  have hall : s.sameButNew ({ U with vm := s.vm } : State) locs mc ms := by
    subst hA
    obtain ⟨e1, e2⟩ := hsame
    rw [State.setFrames_setFrames] at e1
    have h2 : (T.setVm s.vm).sameButNew ({ U with vm := s.vm } : State) [] (0 + 1) (0 + 6) := ⟨e1, e2⟩
    have h3 := X.same.trans h2
    rw [List.append_nil] at h3
    exact h3.mono hc hs
  refine ⟨U, ?_, .threw T.heap.size, hrun, hend, Or.inr ⟨T.heap.size, rfl, cls, ce, locs, hx U hWs.alike f1 (fun q hq => f2 q hq (fun z hz => nomatch hz)), hce, hO.vm, hcl, hWs, hall, hf⟩⟩
  refine st1 _ ?_
  show Steps p.tables e below (T1.setTop { method := m, pc := pc + 3, locals := ls, stack := .ref T.heap.size :: rest, locked := none }) _
  jvm_step X₁.here [X₁.here.top, hexec, d3', Value.category]
  exact X₁.ldcString hexec (own := own) (text := text) (index := is) (a := sa) hown' hstr'.1 hstr'.2
    (g := { method := m, pc := pc + 4, locals := ls, stack := .ref T.heap.size :: .ref T.heap.size :: rest, locked := none }) rfl d4' _ hsteps
/-- 'throw new E("text")', the text by a wide index -/
theorem vx_throwSW {cc : ByteArray} {pc : Nat} (hexec : p.tables.exec = Jvm.exec) (hb : c.code = cc) (hl : l.stackTraces = false) {own cls text : String} {names : List String} {ik is ic mc ms sa : Nat} {A : Nat → Prop}
    (hown : s.vm.findClass own = some m.cls) (hcls : Bundle.fit cls = true) (hnames : ∀ n ∈ names, Bundle.fit n = true)
    (hk : (Cond.classLink own ik cls).before args s = true) (hini : (Cond.initialized cls).before args s = true) (hstr : vk_R own is text sa s) (hat : ∀ w ∈ vx_atS own ic cls names, w.before args s = true)
    (hgood : ∀ w ∈ Cond.classLink own ik cls :: Cond.initialized cls :: vx_atS own ic cls names, vx_ot w = true)
    (hU : vx_Zq Bundle.tN "UNASSIGNED_STACK" Bundle.steD A s s.heap) (hN : vx_Zq Bundle.tN "SUPPRESSED_SENTINEL" Bundle.listD A s s.heap) (hS : va_S A s.heap H locs) (hsize : ls.size = c.maxLocals)
    (d0 : decode cc pc = .ok (.new ik, 3)) (d3 : decode cc (pc + 3) = .ok (.dup, 1)) (d4 : decode cc (pc + 4) = .ok (.ldc_w is, 3)) (d7 : decode cc (pc + 7) = .ok (.invokespecial ic, 3)) (d10 : decode cc (pc + 10) = .ok (.athrow, 1))
    (hout : ∀ x ∈ c.exceptionTable.toList, covers x (pc + 10) = false)
    (hRframes : names.length + 3 < R.frames) (hRlocals : (rest.map fun v => v.category).sum + (13 * (names.length + 1) + 43) ≤ R.locals) (hRcells : cells + 1 ≤ R.cells) (hRslots : slots + 6 ≤ R.slots) (hlocks : meth.locks = false)
    (hx : ∀ t : State, s.vm.Alike t.vm → H.size ≤ t.heap.size → (∀ q : Nat, q < H.size → t.heap[q]? = H[q]?) → XC cls s t)
    (hf : ∀ z ∈ locs, free z.base) (hc : cells + 1 ≤ mc) (hs : slots + 6 ≤ ms) :
    W p l e R s m args below meth c H locs cells slots (vx_MQ below Qc XC args s mc ms free) (F0 m pc ls rest) := by
  intro T hT X
  have htr : e.platform.stackTraces = false := (show e.platform.stackTraces = l.stackTraces by rw [X.admits.platform]).trans hl
  have Y := vx_rebase X (R' := { frames := R.frames, locals := R.locals, cells := 1, slots := 6 }) (Nat.le_refl _) (Nat.le_refl _) hRcells hRslots
  obtain ⟨s', hA⟩ : ∃ z, z = (T.setVm s.vm).setFrames (.invoking m args :: below) := ⟨_, rfl⟩
  rw [← hA] at Y
  have hvm : s'.vm = s.vm := by rw [hA]; rfl
  have hhp : s'.heap = H := by rw [hA]; exact hT
  have hW0 : s.WarmedH s'.vm := by rw [hvm]; exact State.WarmedH.refl s
  have hat' : ∀ w ∈ vx_atS own ic cls names, w.before args s' = true := fun w hw => vx_ot_at hW0 hvm.symm (hgood w (List.mem_cons_of_mem _ (List.mem_cons_of_mem _ hw))) (hat w hw)
  have hk' : (Cond.classLink own ik cls).before args s' = true := vx_ot_at hW0 hvm.symm (hgood _ List.mem_cons_self) hk
  have hini' : (Cond.initialized cls).before args s' = true := vx_ot_at hW0 hvm.symm (hgood _ (List.mem_cons_of_mem _ List.mem_cons_self)) hini
  have hU' : vx_Zq Bundle.tN "UNASSIGNED_STACK" Bundle.steD A s' s'.heap := by rw [hhp]; exact vx_Zq.moved hW0.alike (hU.kept hS.2.1)
  have hN' : vx_Zq Bundle.tN "SUPPRESSED_SENTINEL" Bundle.listD A s' s'.heap := by rw [hhp]; exact vx_Zq.moved hW0.alike (hN.kept hS.2.1)
  have h : ∀ w ∈ Bundle.ownAtoms own ic cls names, w.before args s' = true := vx_own hat' (vx_isRefq hU'.1) (vx_isRefq hN'.1) hU'.2.word hN'.2.word
  have hown' : s'.vm.findClass own = some m.cls := by rw [hvm]; exact hown
  have hins : (Cond.instantiable cls 6).before args s' = true := h _ (by simp [Bundle.ownAtoms])
  obtain ⟨vm₁, cX, kX, hfX, hkX, -, -, X₁, st1⟩ := Y.newCold hexec (own := own) (C := cls) (index := ik) (n := 6) hown' hk' hins hini'
    (g := F0 m pc ls rest) rfl (by rw [hb]; exact d0) (Nat.le_refl _) (Nat.le_refl _)
  generalize hT1 : (T.setVm vm₁).pushCell { cls := cX, slots := kX.instanceTypes.map defaultValue, vm := .none } = T1 at X₁ st1
  have hcat : (Value.ref T.heap.size).category = 1 := rfl
  have hcellA : T1.heap[T.heap.size]? = some (freshCell cX kX) := by rw [← hT1]; exact State.heap_pushCell_size _ _
  have d3' : decode c.code (pc + 3) = .ok (.dup, 1) := by rw [hb]; exact d3
  have d4' : decode c.code (pc + 4) = .ok (.ldc_w is, 3) := by rw [hb]; exact d4
  have hstr' : vk_R own is text sa s' := vk_R.warm hW0 hstr
  obtain ⟨U, hsteps, hrun, hend, hW, hsame, ce, hce, hO⟩ := X₁.ctorThrowS hexec htr (own := own) (cls := cls) (names := names) (ic := ic) hown' hcls hnames h (fun x hx => nomatch hx) hfX hkX hcellA (by rw [hhp, hT]; exact Nat.le_refl _) (msg := .ref sa) rfl
    (g := { method := m, pc := pc + 7, locals := ls, stack := .ref sa :: .ref T.heap.size :: .ref T.heap.size :: rest, locked := none }) rfl hsize rfl rfl (rest := rest) rfl
    (by rw [hb]; exact d7) (by rw [hb]; exact d10) hout hRframes (by simp only [List.map_cons, List.sum_cons, hcat]; omega) hlocks
  obtain ⟨f1, f2⟩ := vx_frame hsame
  rw [hhp] at f1 f2
  have hWs : s.WarmedH U.vm := State.WarmedH.trans hW0 hW
  have hcl : s.vm.findClass cls = some ce.cls := by
    have h9 := hO.cls
    rw [hvm] at h9
    exact h9
  have hall : s.sameButNew ({ U with vm := s.vm } : State) locs mc ms := by
    subst hA
    obtain ⟨e1, e2⟩ := hsame
    rw [State.setFrames_setFrames] at e1
    have h2 : (T.setVm s.vm).sameButNew ({ U with vm := s.vm } : State) [] (0 + 1) (0 + 6) := ⟨e1, e2⟩
    have h3 := X.same.trans h2
    rw [List.append_nil] at h3
    exact h3.mono hc hs
  refine ⟨U, ?_, .threw T.heap.size, hrun, hend, Or.inr ⟨T.heap.size, rfl, cls, ce, locs, hx U hWs.alike f1 (fun q hq => f2 q hq (fun z hz => nomatch hz)), hce, hO.vm, hcl, hWs, hall, hf⟩⟩
  refine st1 _ ?_
  show Steps p.tables e below (T1.setTop { method := m, pc := pc + 3, locals := ls, stack := .ref T.heap.size :: rest, locked := none }) _
  jvm_step X₁.here [X₁.here.top, hexec, d3', Value.category]
  exact X₁.ldcStringW hexec (own := own) (text := text) (index := is) (a := sa) hown' hstr'.1 hstr'.2
    (g := { method := m, pc := pc + 4, locals := ls, stack := .ref T.heap.size :: .ref T.heap.size :: rest, locked := none }) rfl d4' _ hsteps
end Ends
section Bodies
variable {l : Launch}
theorem vx_ofW {y : MethodName} {ws ws' : List Cond} {rm : Room} {Pc : Array Value → State → Prop} {Qc : Array Value → State → Outcome → State → Prop} {XC : String → State → State → Prop} {mc ms : Nat} {free : Addr → Prop} {cc : ByteArray} {maxL : Nat} {ret : Option FieldType}
    (hy : plainName y.cls = true) (hw : ws = Cond.code y cc maxL ret :: ws')
    (body : ∀ p e s m args below meth c s₁, BodyLoose p l y (headSpec ws rm) cc maxL ret e s m args below meth c s₁ → c.maxLocals = maxL → (∀ x ∈ c.exceptionTable.toList, False) → Pc args s →
      W p l e (headSpec ws rm).room s m args below meth c s.heap [] 0 0 (vx_MQ below Qc XC args s mc ms free) (entryFrame m args maxL)) : vx_Met l y ws rm Pc Qc XC mc ms free := by
  refine MetFree.of_bodyS (code := cc) (maxLocals := maxL) (ret := ret) hy ?_ ?_
  · intro args s m h hn
    obtain ⟨meth, c, h1, h2, h3, h4, h5, h6, -, -⟩ := Cond.code_spec hn (atoms_spec (ws := ws) h _ (by rw [hw]; exact List.mem_cons_self))
    exact ⟨meth, c, h1, h2, h3, h4, h5, h6⟩
  · intro p e s m args below meth c s₁ B hml hP _
    have hh0 : s₁.heap = s.heap := by rw [B.state]; rfl
    have ht : ∀ x ∈ c.exceptionTable.toList, False := by
      obtain ⟨meth9, c9, h1, h2, -, -, -, -, h7, -⟩ := Cond.code_spec B.named (atoms_spec (ws := ws) B.pre _ (by rw [hw]; exact List.mem_cons_self))
      cases Option.some.inj (h1.symm.trans B.method)
      cases Option.some.inj (h2.symm.trans (Stand.of_body B).code)
      intro x hx
      rw [Array.isEmpty_iff.mp h7] at hx
      cases hx
    obtain ⟨t, a1, o, b1, b2, b3⟩ := body p e s m args below meth c s₁ B hml ht hP s₁ hh0 (Stand.of_body B)
    exact ⟨t, o, a1, b1, b2, b3⟩
/-- the table of a body with handlers -/
theorem vx_table {p : Program} {x y : MethodName} {S : Spec} {cc bytes : ByteArray} {maxL maxL' : Nat} {ret ret' : Option FieldType} {e : Env} {s s₁ : State} {m : MethodId} {args : Array Value} {below : List Frame} {meth : Method} {c : Code} {hh : List (Nat × Nat × Nat × Nat)}
    (B : BodyLoose p l y S cc maxL ret e s m args below meth c s₁) (h : (Cond.codeWith y bytes maxL' ret' hh).before args s = true) : c.exceptionTable.toList = tableOf hh := by
  obtain ⟨m9, meth9, c9, hn9, h1, h2, -, -, h6, -⟩ := Cond.codeWith_spec h
  cases Option.some.inj (hn9.symm.trans B.named)
  cases Option.some.inj (h1.symm.trans B.method)
  cases Option.some.inj (h2.symm.trans (Stand.of_body B).code)
  rw [← h6, table_eq]
end Bodies
end VXA
/-! ===== END ===== -/
/-! ===== BEGIN a static call of a method with an exception table ===== -/
section VXS
variable {p : Program} {l : Launch} {e : Env} {R : Room} {s : State} {m : MethodId} {args : Array Value} {below : List Frame} {meth : Method} {c : Code} {T : State} {H : Heap} {locs : List Loc} {cells slots : Nat}
abbrev vx_CSW (R : Room) (s : State) (args : Array Value) (own : String) (index : Nat) (y : MethodName) (bytes : ByteArray) (maxL : Nat) (ret : Option FieldType) (hh : List (Nat × Nat × Nat × Nat)) (ws : List Cond) (rm : Room) (mc ms n : Nat) : Prop :=
  (rm.cells = mc ∧ rm.slots = ms ∧ rm.frames + 1 ≤ R.frames ∧ 8 + (maxL + 11) + rm.locals ≤ R.locals ∧ (∀ w ∈ ws, ∀ (a' : Array Value) (U : State), s.WarmedH U.vm → w.before a' U = true) ∧ Cond.codeWith y bytes maxL ret hh ∈ ws) ∧
  (Cond.codeWith y bytes maxL ret hh).before args s = true ∧ (Cond.initialized y.cls).before args s = true ∧ (y.cls ≠ "java/lang/invoke/MethodHandle" ∧ y.cls ≠ "java/lang/invoke/VarHandle") ∧
  (∀ sig, parseMethodDescriptor y.desc = some sig → n = sig.parameters.length) ∧ (Cond.methodLink own index y).before args s = true ∧ (Cond.static y).before args s = true
theorem vx_cwSW {own : String} {index maxL mc ms : Nat} {y : MethodName} {bytes : ByteArray} {ret : Option FieldType} {hh : List (Nat × Nat × Nat × Nat)} {Ts ws ws' : List Cond} {rm : Room} (n : Nat) (ht : ∀ w ∈ Ts, w.before args s = true) (hT : GoodIn Ts (va_wsS own index y ws)) (hw : ws = Cond.codeWith y bytes maxL ret hh :: ws') (hrc : rm.cells = mc) (hrs : rm.slots = ms)
    (hd : y.cls ≠ "java/lang/invoke/MethodHandle" ∧ y.cls ≠ "java/lang/invoke/VarHandle" ∧ (parseMethodDescriptor y.desc).map (fun d => d.parameters.length) = some n) (hR : rm.frames + 1 ≤ R.frames ∧ 8 + (maxL + 11) + rm.locals ≤ R.locals) :
    vx_CSW R s args own index y bytes maxL ret hh ws rm mc ms n := by
  have ok : ∀ w ∈ va_wsS own index y ws, w.before args s = true := fun w h => ht w (hT w h).1
  have hG : GoodIn Ts ws := fun w h => hT w (by unfold va_wsS; exact List.mem_append_right _ h)
  have hc : Cond.codeWith y bytes maxL ret hh ∈ ws := by rw [hw]; exact List.mem_cons_self
  refine ⟨⟨hrc, hrs, hR.1, hR.2, pay_in ht hG, hc⟩, ht _ (hG _ hc).1, ok _ (by simp [va_wsS]), ⟨hd.1, hd.2.1⟩, fun sig h => ?_, ok _ (by simp [va_wsS]), ok _ (by simp [va_wsS])⟩
  have h2 := hd.2.2
  rw [h] at h2
  exact (Option.some.inj h2).symm
theorem vx_callSW (X : Stand p l e R s m args below meth c T locs cells slots) (hexec : p.tables.exec = Jvm.exec) {own : String} {index : Nat} {y : MethodName} {bytes : ByteArray} {maxL : Nat} {ret : Option FieldType} {hh : List (Nat × Nat × Nat × Nat)}
    (hown : s.vm.findClass own = some m.cls) (hlink : (Cond.methodLink own index y).before args s = true) (hstat : (Cond.static y).before args s = true) (hinit : (Cond.initialized y.cls).before args s = true)
    (hcode : (Cond.codeWith y bytes maxL ret hh).before args s = true) (hy : y.cls ≠ "java/lang/invoke/MethodHandle" ∧ y.cls ≠ "java/lang/invoke/VarHandle")
    {W9 : Nat} {Pre : Pt → Array Value → Prop} {Post : Pt → Array Value → Option Value → Pt → Prop} (hK : Back l R p e below s args y 3 W9 Pre Post)
    {g : JFrame} (hg : g.method = m) (hsize : g.locals.size = c.maxLocals) {argsL rest : List Value} (hlen : ∀ sig, parseMethodDescriptor y.desc = some sig → argsL.length = sig.parameters.length)
    (hstack : g.stack = argsL.reverse ++ rest) (hW : 2 * g.monitorRoom + (rest.map fun v => v.category).sum ≤ W9) (hdg : decode c.code g.pc = .ok (.invokestatic index, 3))
    (hpre : ∀ vm₁, s.WarmedH vm₁ → Pre ⟨T.setVm vm₁, locs, cells, slots⟩ argsL.toArray) :
    ∃ (v : Option Value) (vm₁ : Vm) (B : Pt), s.WarmedH vm₁ ∧ Stand p l e R s m args below meth c B.U B.locs B.cells B.slots ∧ Post ⟨T.setVm vm₁, locs, cells, slots⟩ argsL.toArray v B ∧
      ∀ target, Steps p.tables e below (B.U.setTop { g with pc := g.pc + 3, stack := v.toList ++ rest }) target → Steps p.tables e below (T.setTop g) target := by
  obtain ⟨mk, methM, cM, hnamed, hmethM, -, -, -, -, -, -, hsigM⟩ := Cond.codeWith_spec hcode
  have hstatic : methM.isStatic = true := Cond.static_spec hnamed hmethM hstat
  obtain ⟨kP, hkP, -⟩ := className_of_methodNamed hnamed
  have hinitP : kP.init = .initialized := Cond.initialized_spec (findClass_of_methodNamed hnamed) hkP hinit
  obtain ⟨vm₁, X₁, hstep₁⟩ := X.invokestatic hexec hown hlink hnamed hmethM hstatic hkP hinitP hy (g := g) hg (argsL := argsL) (rest := rest) (hlen _ hsigM) hstack hdg
  obtain ⟨v, B, X', hpost, hsteps⟩ := hK m meth c ⟨T.setVm vm₁, locs, cells, slots⟩ { g with stack := rest } (.invokestatic index) mk argsL.toArray X₁ hg hsize hdg hW (X₁.named hnamed) (hpre vm₁ X₁.warmed)
  exact ⟨v, vm₁, B, X₁.warmed, X', hpost, fun target h => hstep₁ _ fun acts => by rw [doInvoke_state]; exact hsteps.trans h⟩
theorem vx_runSW {y : MethodName} {bytes cc : ByteArray} {maxL nL mc ms n index : Nat} {ret : Option FieldType} {hh : List (Nat × Nat × Nat × Nat)} {ws : List Cond} {rm : Room} {Pc : Array Value → State → Prop} {Qc : Array Value → State → Outcome → State → Prop} {free : Addr → Prop} {Ts : List Cond} {own : String} {As rest : List Value} {g : JFrame}
    (S : CallFix p m c cc nL s args Ts own) (hM : Met l y ws rm Pc Qc mc ms free) (cw : vx_CSW R s args own index y bytes maxL ret hh ws rm mc ms n) (hp : PreS s H Pc As)
    (hg : g.method = m) (hn : As.length = n) (hsize : g.locals.size = nL) (hstack : g.stack = As.reverse ++ rest) (hW : 2 * g.monitorRoom + (rest.map fun v => v.category).sum ≤ 8) (hdg : decode cc g.pc = .ok (.invokestatic index, 3)) (hf : cells + mc ≤ R.cells ∧ slots + ms ≤ R.slots) :
    va_Run p l e R s m args below meth c H locs cells slots mc ms g rest (Qc As.toArray) (free) := by
  obtain ⟨⟨hrc, hrs, hfr, hlo, hws, hcw⟩, hcode, hini, hy, hlen, hl, hstt⟩ := cw
  have hK : Back l R p e below s args y 3 8 (PreOf R mc ms Pc) (PostOf Qc mc ms free) := va_backW (hh := hh) (bytes := bytes) (maxL := maxL) (ret := ret) hM hp.1 hrc hrs hfr hlo hws hcw (fun a' U hW => word_at hW (Or.inl (by first | rfl | simp [Cond.onTables, Cond.keeps, Cond.steady])) hini)
  obtain ⟨hx, hb, hml, ho, -⟩ := S
  intro T hT X
  obtain ⟨v, vm₁, ⟨U', l2, c2, s2⟩, hW₁, X', ⟨g', mk, t, L, e1, e2, hq, h1, hL, h2, h3⟩, st⟩ := vx_callSW X hx (hh := hh) (bytes := bytes) (maxL := maxL) (ret := ret) ho hl hstt hini hcode hy hK hg (hsize.trans hml.symm) (argsL := As) (rest := rest) (fun sig h => hn.trans (hlen sig h)) hstack hW (by rw [hb]; exact hdg)
    (fun vm₁ hW₁ => ⟨hf.1, hf.2, hp.2 (T.setVm vm₁) hT hW₁⟩)
  dsimp only [Pt.U, Pt.locs, Pt.cells, Pt.slots] at X' e1 e2 h1 h2 h3 st
  subst h1; subst h2; subst h3
  exact ⟨v, (T.setVm vm₁).calling g' mk As.toArray, t, U', L, hT, X', hL, e1, e2, hq, st⟩
/-- not caught here, past rows that name other classes: it goes on to the caller -/
theorem vx_outP {p : Program} {l : Launch} {e : Env} {R : Room} {s : State} {m : MethodId} {args : Array Value} {below : List Frame} {meth : Method} {c : Code} {H : Heap} {locs : List Loc} {cells slots : Nat} {free : Addr → Prop} {ls : Array Slot} {rest : List Value} {Qc : Array Value → State → Outcome → State → Prop} {XC : String → State → State → Prop}
    {pc : Nat} {own E : String} {ce : Cell} {q : Addr} {mc ms : Nat} (hown : s.vm.findClass own = some m.cls) (hlocks : meth.locks = false)
    (hpass : ∀ z ∈ c.exceptionTable.toList, covers z pc = false ∨ (z.catchType ≠ 0 ∧ ∃ nm : String, (Cond.classLink own z.catchType nm).before args s = true ∧ va_Nc E nm s)) (hcell : H[q]? = some ce) (hv : ce.vm = .none) (hcl : s.vm.findClass E = some ce.cls)
    (hx : ∀ t : State, t.heap = H → s.vm.Alike t.vm → XC E s t) (hf : ∀ z ∈ locs, free z.base) (hc : cells ≤ mc) (hs : slots ≤ ms) :
    vx_W p l e R s m args below meth c H locs cells slots (vx_MQ below Qc XC args s mc ms free) (F0 m pc ls rest) q := by
  intro T hT X
  have hpl : e.platform.magicAccessors = ({} : Platform).magicAccessors := by rw [X.admits.platform]
  obtain ⟨vm', hW', X', st⟩ := X.outThrough hlocks q (g := F0 m pc ls rest) rfl rfl rfl (cell := ce) (by rw [hT]; exact hcell) (by rw [hv]; rfl)
    (by obtain ⟨k9, h9, -⟩ := Vm.findClass_spec hcl; exact ⟨k9, h9⟩) (fun z hz => by
      rcases hpass z hz with h | ⟨hz0, nm, hl1, hn1⟩
      · exact Or.inl h
      · obtain ⟨c6, hc6, hcl6⟩ := Cond.classLink_spec hown hl1 e.platform hpl
        obtain ⟨a8, b8, h1, h2, h3⟩ := hn1
        cases Option.some.inj (h1.symm.trans hcl)
        cases Option.some.inj (h2.symm.trans hc6)
        exact Or.inr ⟨hz0, _, hcl6, h3⟩)
  obtain ⟨g₀, hfr⟩ := X'.frames_eq
  have hcell9 : ((T.setVm vm').setFrames (.throwing q :: below)).heap[q]? = some ce := by
    show T.heap[q]? = some ce
    rw [hT]; exact hcell
  have hend : Ended ((T.setVm vm').setFrames (.throwing q :: below)) below (.threw q) := State.frames_setFrames _ (State.cur_lt_of_frames hfr)
  refine ⟨(T.setVm vm').setFrames (.throwing q :: below), ?_, .threw q, X'.here.running, hend, Or.inr ⟨q, rfl, E, ce, locs, hx _ hT (X'.ends _).1.alike, hcell9, hv, hcl, (X'.ends _).1, (X'.ends _).2.mono hc hs, hf⟩⟩
  rw [X.pushThrowing_eq]
  exact st
/-- a thing of a world lies in the heap -/
theorem vx_lt {D : va_G} {cl : List vw_C} {ws : va_W} {H1 : Heap} (h : va_P D cl ws H1) {k : Nat} {q : Nat × va_E} (hk : ws[k]? = some q) : q.1 < H1.size := (h k q hk).lt
end VXS
/-! ===== END ===== -/
/-! ===== BEGIN methods with a table of their own: called by a name, returning or throwing ===== -/
section VXH
/-! vx_backW, vx_callVX, vx_callSX, vx_callVW, vx_runVW, vx_runVX, vx_runSX, vx_ofWH follow the same proofs as their sisters above (Free/Laws.lean, Shelf42/LK1.lean); vx_outP calls Shelf42/NT130.lean (outThrough). -/
section
variable {l : Launch} {R : Room} {p : Program} {e : Env} {below : List Frame} {s : State} {sargs : Array Value} {y : MethodName} {len W9 : Nat}
theorem vx_backW {ws : List Cond} {rm : Room} {Pc : Array Value → State → Prop} {Qc : Array Value → State → Outcome → State → Prop} {XC : String → State → State → Prop} {mc ms : Nat} {free : Addr → Prop} {bytes : ByteArray} {maxL : Nat} {ret : Option FieldType} {hh : List (Nat × Nat × Nat × Nat)}
    (hM : vx_Met l y ws rm Pc Qc XC mc ms free) (hblind : FrameBlind Pc) (hrc : rm.cells = mc) (hrs : rm.slots = ms)
    (hframes : rm.frames + 1 ≤ R.frames) (hlocals : W9 + (maxL + 11) + rm.locals ≤ R.locals)
    (hws : ∀ w ∈ ws, ∀ a' U, s.WarmedH U.vm → w.before a' U = true) (hcode : Cond.codeWith y bytes maxL ret hh ∈ ws) (hinit : ∀ a' U, s.WarmedH U.vm → (Cond.initialized y.cls).before a' U = true) :
    vx_Back l R p e below s sargs y len W9 (PreOf R mc ms Pc) (PostOf Qc mc ms free) (vx_Post XC mc ms free) := by
  intro m meth c A g ig mk a X hg hsize hdg hW hn hp
  have h1 : (headSpec ws rm).pre.before a A.U = true := atoms_intro fun w hw => hws w hw _ _ X.warmed
  have h2 : (Cond.codeWith y bytes maxL ret hh).before a A.U = true := hws _ hcode _ _ X.warmed
  have h3 : (Cond.initialized y.cls).before a A.U = true := hinit _ _ X.warmed
  have h4 : A.cells + (headSpec ws rm).room.cells ≤ R.cells := by rw [show (headSpec ws rm).room.cells = mc from hrc]; exact hp.1
  have h5 : A.slots + (headSpec ws rm).room.slots ≤ R.slots := by rw [show (headSpec ws rm).room.slots = ms from hrs]; exact hp.2.1
  have hPc : Pc a (A.U.calling g mk a) := hblind _ _ _ _ hp.2.2
  obtain ⟨U, Ls, c0, s0⟩ := A
  dsimp only [Pt.U, Pt.locs, Pt.cells, Pt.slots] at h1 h2 h3 h4 h5 X hn hPc ⊢
  obtain ⟨m9, methY, cY, hn9, hmY, hcY, -, hlY, -⟩ := Cond.codeWith_spec h2
  cases Option.some.inj (hn9.symm.trans hn)
  obtain ⟨kY, hkY, -⟩ := className_of_methodNamed hn
  have hinitY : kY.init = .initialized := Cond.initialized_spec (findClass_of_methodNamed hn) hkY h3
  have h : At U g.method c below := by rw [hg]; exact X.here
  have hlocals9 : W9 + (maxL + 11) + (headSpec ws rm).room.locals ≤ R.locals := hlocals
  have happ : (headSpec ws rm).appliesLoose y e.platform (U.calling g mk a) = true :=
    Spec.appliesLoose_calling (g := g) h hdg hn hkY hinitY
      (X.room_calling (g := g) (R' := (headSpec ws rm).room) hsize hmY hcY hframes (by rw [hlY]; omega) h4 h5) h1
  obtain ⟨mid, hmid⟩ := h.above
  have hfr : (U.setTop g).frames = (.java g :: mid) ++ below := by rw [State.frames_setTop' g h.top, hmid]; rfl
  obtain ⟨o, s₂, hsteps, -, hend, hq⟩ := Steps.callFree hM p X.admits X.cas X.clock (acts := []) hfr happ hPc trivial
  have hq' : vx_Q Qc XC mc ms free a (U.calling g mk a) o s₂ := hq
  rw [State.frames_setTop' g h.top] at hend
  obtain ⟨g₀, hg0⟩ := Option.isSome_iff_exists.mp h.top
  obtain ⟨r, hr⟩ := State.topJava?_eq_some.mp hg0
  have hr' : (({ U with heap := s₂.heap, slotsUsed := s₂.slotsUsed } : State).setVm s₂.vm).frames = .java g₀ :: r := hr
  rcases hq' with ⟨hqc, L, hfe, hL⟩ | ⟨q, rfl, E, ce, L, hx, hce, hcv, hcl, hW₂, hsm, hL⟩
  · obtain ⟨⟨v, rfl⟩, hW₂, e2, q2, q3, q4, q5, q6⟩ := id hfe
    have e3 : s₂ = ({ (U.calling g mk a).setFrames s₂.frames with heap := s₂.heap, slotsUsed := s₂.slotsUsed } : State).setVm s₂.vm := by
      have : s₂ = ({ s₂ with vm := (U.calling g mk a).vm } : State).setVm s₂.vm := rfl
      rw [e2] at this
      exact this
    obtain ⟨c₂, i₂, len₂, hc₂, hd₂, hf₂⟩ := hend
    have hW' : U.WarmedH s₂.vm := hW₂
    have hcc : c₂ = c := by
      have h1 : s₂.code? g.method = U.code? g.method := by
        rw [State.code?_eq, State.code?_eq, hW'.alike.method?]
      exact Option.some.inj (hc₂.symm.trans (h1.trans h.code))
    subst hcc
    have hlen : len₂ = len := by rw [hdg] at hd₂; cases hd₂; rfl
    subst hlen
    have hs₂ : s₂ = (({ U with heap := s₂.heap, slotsUsed := s₂.slotsUsed } : State).setVm s₂.vm).setTop { g with pc := g.pc + len₂, stack := v.toList ++ g.stack } := by
      refine e3.trans ?_
      rw [hf₂, State.calling_eq h.top, State.setFrames_setFrames, State.setTop_of_frames _ hr', hr]
      rfl
    have hsame : U.sameButNew ({ U with heap := s₂.heap, slotsUsed := s₂.slotsUsed } : State) L mc ms := by
      refine ⟨?_, q2, q3, q4, q5, q6⟩
      obtain ⟨t, ht, -⟩ := State.frames_cons hr
      show ({ U with heap := s₂.heap, slotsUsed := s₂.slotsUsed } : State) = { U.setFrames U.frames with heap := s₂.heap, slotsUsed := s₂.slotsUsed }
      rw [State.setFrames_self ht]
    subst hg
    refine Or.inl ⟨v, ⟨(({ U with heap := s₂.heap, slotsUsed := s₂.slotsUsed } : State).setVm s₂.vm), Ls ++ L, c0 + mc, s0 + ms⟩,
      ⟨X.admits, X.cas, X.clock, X.frames, X.room, X.hears, X.method, X.code, (X.here.setHeapUsed s₂.heap s₂.slotsUsed).setVm hW'.alike, X.tail, State.WarmedH.trans X.warmed hW', X.limits, X.bytes, X.same.trans (hsame.setVm s.vm)⟩,
      ⟨g, mk, s₂, L, rfl, rfl, hqc, rfl, hL, rfl, rfl⟩, ?_⟩
    show Steps p.tables e below _ ((({ U with heap := s₂.heap, slotsUsed := s₂.slotsUsed } : State).setVm s₂.vm).setTop { g with pc := g.pc + len₂, stack := v.toList ++ g.stack })
    rw [← hs₂]
    exact hsteps
  · obtain ⟨e2, q2, q3, q4, q5, q6⟩ := id hsm
    have e3 : s₂ = ({ (U.calling g mk a).setFrames s₂.frames with heap := s₂.heap, slotsUsed := s₂.slotsUsed } : State).setVm s₂.vm := by
      have : s₂ = ({ s₂ with vm := (U.calling g mk a).vm } : State).setVm s₂.vm := rfl
      rw [e2] at this
      exact this
    have hf₂ : s₂.frames = .throwing q :: .java g :: U.frames.tail := hend
    have hW' : U.WarmedH s₂.vm := hW₂
    have hs₂ : s₂ = ((({ U with heap := s₂.heap, slotsUsed := s₂.slotsUsed } : State).setVm s₂.vm).setTop g).pushFrame (.throwing q) := by
      refine e3.trans ?_
      rw [hf₂, State.calling_eq h.top, State.setFrames_setFrames, State.pushFrame, State.frames_setTop _ hr', State.setTop_of_frames _ hr', State.setFrames_setFrames, hr]
      rfl
    have hsame : U.sameButNew ({ U with heap := s₂.heap, slotsUsed := s₂.slotsUsed } : State) L mc ms := by
      refine ⟨?_, q2, q3, q4, q5, q6⟩
      obtain ⟨t, ht, -⟩ := State.frames_cons hr
      show ({ U with heap := s₂.heap, slotsUsed := s₂.slotsUsed } : State) = { U.setFrames U.frames with heap := s₂.heap, slotsUsed := s₂.slotsUsed }
      rw [State.setFrames_self ht]
    subst hg
    refine Or.inr ⟨q, ⟨(({ U with heap := s₂.heap, slotsUsed := s₂.slotsUsed } : State).setVm s₂.vm), Ls ++ L, c0 + mc, s0 + ms⟩,
      ⟨X.admits, X.cas, X.clock, X.frames, X.room, X.hears, X.method, X.code, (X.here.setHeapUsed s₂.heap s₂.slotsUsed).setVm hW'.alike, X.tail, State.WarmedH.trans X.warmed hW', X.limits, X.bytes, X.same.trans (hsame.setVm s.vm)⟩,
      ⟨g, mk, s₂, L, E, ce, rfl, rfl, hx, hce, hcv, hcl, rfl, hL, rfl, rfl⟩, ?_⟩
    show Steps p.tables e below _ (((({ U with heap := s₂.heap, slotsUsed := s₂.slotsUsed } : State).setVm s₂.vm).setTop g).pushFrame (.throwing q))
    rw [← hs₂]
    exact hsteps
end
variable {p : Program} {l : Launch} {e : Env} {R : Room} {s : State} {m : MethodId} {args : Array Value} {below : List Frame} {meth : Method} {c : Code} {T : State} {H : Heap} {locs : List Loc} {cells slots : Nat}
theorem vx_callVX (X : Stand p l e R s m args below meth c T locs cells slots) (hexec : p.tables.exec = Jvm.exec) {own C : String} {index : Nat} {y : MethodName} {bytes : ByteArray} {maxL : Nat} {ret : Option FieldType} {hh : List (Nat × Nat × Nat × Nat)}
    (hown : s.vm.findClass own = some m.cls) (hlink : (Cond.methodLink own index y).before args s = true) (hinst : (Cond.instanceMethod y).before args s = true) (hsel : (Cond.selects C y y).before args s = true)
    (hcode : (Cond.codeWith y bytes maxL ret hh).before args s = true) (hy : y.cls ≠ "java/lang/invoke/MethodHandle" ∧ y.cls ≠ "java/lang/invoke/VarHandle")
    {W9 : Nat} {Pre : Pt → Array Value → Prop} {Post : Pt → Array Value → Option Value → Pt → Prop} {PostX : Pt → Array Value → Addr → Pt → Prop} (hK : vx_Back l R p e below s args y 3 W9 Pre Post PostX)
    {b : Addr} {cellB : Cell} (hcell : T.heap[b]? = some cellB) (hobj : cellB.vm.isStatics = false) (hcls : s.vm.findClass C = some cellB.cls)
    {g : JFrame} (hg : g.method = m) (hsize : g.locals.size = c.maxLocals) {argsL rest : List Value} (hlen : ∀ sig, parseMethodDescriptor y.desc = some sig → argsL.length = sig.parameters.length)
    (hstack : g.stack = argsL.reverse ++ .ref b :: rest) (hW : 2 * g.monitorRoom + (rest.map fun v => v.category).sum ≤ W9) (hdg : decode c.code g.pc = .ok (.invokevirtual index, 3))
    (hpre : ∀ vm₁, s.WarmedH vm₁ → Pre ⟨T.setVm vm₁, locs, cells, slots⟩ (Value.ref b :: argsL).toArray) :
    (∃ (v : Option Value) (vm₁ : Vm) (B : Pt), s.WarmedH vm₁ ∧ Stand p l e R s m args below meth c B.U B.locs B.cells B.slots ∧ Post ⟨T.setVm vm₁, locs, cells, slots⟩ (Value.ref b :: argsL).toArray v B ∧
      ∀ target, Steps p.tables e below (B.U.setTop { g with pc := g.pc + 3, stack := v.toList ++ rest }) target → Steps p.tables e below (T.setTop g) target) ∨
    (∃ (q : Addr) (vm₁ : Vm) (B : Pt), s.WarmedH vm₁ ∧ Stand p l e R s m args below meth c B.U B.locs B.cells B.slots ∧ PostX ⟨T.setVm vm₁, locs, cells, slots⟩ (Value.ref b :: argsL).toArray q B ∧
      Steps p.tables e below (T.setTop g) ((B.U.setTop { g with stack := rest }).pushFrame (.throwing q))) := by
  obtain ⟨mk, methM, hnamed, hmethM, hstM, habM⟩ := Cond.instanceMethod_spec hinst
  obtain ⟨m8, methM', cM, hn8, hmethM', -, -, -, -, -, -, hsigM⟩ := Cond.codeWith_spec hcode
  cases Option.some.inj (hn8.symm.trans hnamed)
  cases hmethM.symm.trans hmethM'
  obtain ⟨c2, r2, m2, q1, q2, q3, q4, kP, hkP, hkPi⟩ := Cond.selects_spec hsel
  cases hcls.symm.trans q1
  cases (State.methodFound?_of_named hnamed hy).symm.trans q2
  cases hnamed.symm.trans q3
  have hselP : selectMethod e.platform s.vm cellB.cls mk = .method mk := by rw [Launch.admits_selectMethod X.admits]; exact q4
  obtain ⟨vm₁, X₁, hstep₁⟩ := X.invokevirtual hexec hown hlink hnamed hmethM hstM hkP hkPi hy (a := b) (cell := cellB) hcell
    (fun z h => by rw [h] at hobj; cases hobj) hselP hmethM habM hkP hkPi (g := g) hg (argsL := argsL) (rest := rest) (hlen _ hsigM) hstack hdg
  rcases hK m meth c ⟨T.setVm vm₁, locs, cells, slots⟩ { g with stack := rest } (.invokevirtual index) mk (Value.ref b :: argsL).toArray X₁ hg hsize hdg hW (X₁.named hnamed) (hpre vm₁ X₁.warmed) with ⟨v, B, X', hpost, hsteps⟩ | ⟨q, B, X', hpost, hsteps⟩
  · exact Or.inl ⟨v, vm₁, B, X₁.warmed, X', hpost, fun target h => hstep₁ _ fun acts => by rw [doInvoke_state]; exact hsteps.trans h⟩
  · exact Or.inr ⟨q, vm₁, B, X₁.warmed, X', hpost, hstep₁ _ fun acts => by rw [doInvoke_state]; exact hsteps⟩
theorem vx_callSX (X : Stand p l e R s m args below meth c T locs cells slots) (hexec : p.tables.exec = Jvm.exec) {own : String} {index : Nat} {y : MethodName} {bytes : ByteArray} {maxL : Nat} {ret : Option FieldType} {hh : List (Nat × Nat × Nat × Nat)}
    (hown : s.vm.findClass own = some m.cls) (hlink : (Cond.methodLink own index y).before args s = true) (hstat : (Cond.static y).before args s = true) (hinit : (Cond.initialized y.cls).before args s = true)
    (hcode : (Cond.codeWith y bytes maxL ret hh).before args s = true) (hy : y.cls ≠ "java/lang/invoke/MethodHandle" ∧ y.cls ≠ "java/lang/invoke/VarHandle")
    {W9 : Nat} {Pre : Pt → Array Value → Prop} {Post : Pt → Array Value → Option Value → Pt → Prop} {PostX : Pt → Array Value → Addr → Pt → Prop} (hK : vx_Back l R p e below s args y 3 W9 Pre Post PostX)
    {g : JFrame} (hg : g.method = m) (hsize : g.locals.size = c.maxLocals) {argsL rest : List Value} (hlen : ∀ sig, parseMethodDescriptor y.desc = some sig → argsL.length = sig.parameters.length)
    (hstack : g.stack = argsL.reverse ++ rest) (hW : 2 * g.monitorRoom + (rest.map fun v => v.category).sum ≤ W9) (hdg : decode c.code g.pc = .ok (.invokestatic index, 3))
    (hpre : ∀ vm₁, s.WarmedH vm₁ → Pre ⟨T.setVm vm₁, locs, cells, slots⟩ argsL.toArray) :
    (∃ (v : Option Value) (vm₁ : Vm) (B : Pt), s.WarmedH vm₁ ∧ Stand p l e R s m args below meth c B.U B.locs B.cells B.slots ∧ Post ⟨T.setVm vm₁, locs, cells, slots⟩ argsL.toArray v B ∧
      ∀ target, Steps p.tables e below (B.U.setTop { g with pc := g.pc + 3, stack := v.toList ++ rest }) target → Steps p.tables e below (T.setTop g) target) ∨
    (∃ (q : Addr) (vm₁ : Vm) (B : Pt), s.WarmedH vm₁ ∧ Stand p l e R s m args below meth c B.U B.locs B.cells B.slots ∧ PostX ⟨T.setVm vm₁, locs, cells, slots⟩ argsL.toArray q B ∧
      Steps p.tables e below (T.setTop g) ((B.U.setTop { g with stack := rest }).pushFrame (.throwing q))) := by
  obtain ⟨mk, methM, cM, hnamed, hmethM, -, -, -, -, -, -, hsigM⟩ := Cond.codeWith_spec hcode
  have hstatic : methM.isStatic = true := Cond.static_spec hnamed hmethM hstat
  obtain ⟨kP, hkP, -⟩ := className_of_methodNamed hnamed
  have hinitP : kP.init = .initialized := Cond.initialized_spec (findClass_of_methodNamed hnamed) hkP hinit
  obtain ⟨vm₁, X₁, hstep₁⟩ := X.invokestatic hexec hown hlink hnamed hmethM hstatic hkP hinitP hy (g := g) hg (argsL := argsL) (rest := rest) (hlen _ hsigM) hstack hdg
  rcases hK m meth c ⟨T.setVm vm₁, locs, cells, slots⟩ { g with stack := rest } (.invokestatic index) mk argsL.toArray X₁ hg hsize hdg hW (X₁.named hnamed) (hpre vm₁ X₁.warmed) with ⟨v, B, X', hpost, hsteps⟩ | ⟨q, B, X', hpost, hsteps⟩
  · exact Or.inl ⟨v, vm₁, B, X₁.warmed, X', hpost, fun target h => hstep₁ _ fun acts => by rw [doInvoke_state]; exact hsteps.trans h⟩
  · exact Or.inr ⟨q, vm₁, B, X₁.warmed, X', hpost, hstep₁ _ fun acts => by rw [doInvoke_state]; exact hsteps⟩
theorem vx_callVW (X : Stand p l e R s m args below meth c T locs cells slots) (hexec : p.tables.exec = Jvm.exec) {own C : String} {index : Nat} {y : MethodName} {bytes : ByteArray} {maxL : Nat} {ret : Option FieldType} {hh : List (Nat × Nat × Nat × Nat)}
    (hown : s.vm.findClass own = some m.cls) (hlink : (Cond.methodLink own index y).before args s = true) (hinst : (Cond.instanceMethod y).before args s = true) (hsel : (Cond.selects C y y).before args s = true)
    (hcode : (Cond.codeWith y bytes maxL ret hh).before args s = true) (hy : y.cls ≠ "java/lang/invoke/MethodHandle" ∧ y.cls ≠ "java/lang/invoke/VarHandle")
    {W9 : Nat} {Pre : Pt → Array Value → Prop} {Post : Pt → Array Value → Option Value → Pt → Prop} (hK : Back l R p e below s args y 3 W9 Pre Post)
    {b : Addr} {cellB : Cell} (hcell : T.heap[b]? = some cellB) (hobj : cellB.vm.isStatics = false) (hcls : s.vm.findClass C = some cellB.cls)
    {g : JFrame} (hg : g.method = m) (hsize : g.locals.size = c.maxLocals) {argsL rest : List Value} (hlen : ∀ sig, parseMethodDescriptor y.desc = some sig → argsL.length = sig.parameters.length)
    (hstack : g.stack = argsL.reverse ++ .ref b :: rest) (hW : 2 * g.monitorRoom + (rest.map fun v => v.category).sum ≤ W9) (hdg : decode c.code g.pc = .ok (.invokevirtual index, 3))
    (hpre : ∀ vm₁, s.WarmedH vm₁ → Pre ⟨T.setVm vm₁, locs, cells, slots⟩ (Value.ref b :: argsL).toArray) :
    ∃ (v : Option Value) (vm₁ : Vm) (B : Pt), s.WarmedH vm₁ ∧ Stand p l e R s m args below meth c B.U B.locs B.cells B.slots ∧ Post ⟨T.setVm vm₁, locs, cells, slots⟩ (Value.ref b :: argsL).toArray v B ∧
      ∀ target, Steps p.tables e below (B.U.setTop { g with pc := g.pc + 3, stack := v.toList ++ rest }) target → Steps p.tables e below (T.setTop g) target := by
  obtain ⟨mk, methM, hnamed, hmethM, hstM, habM⟩ := Cond.instanceMethod_spec hinst
  obtain ⟨m8, methM', cM, hn8, hmethM', -, -, -, -, -, -, hsigM⟩ := Cond.codeWith_spec hcode
  cases Option.some.inj (hn8.symm.trans hnamed)
  cases hmethM.symm.trans hmethM'
  obtain ⟨c2, r2, m2, q1, q2, q3, q4, kP, hkP, hkPi⟩ := Cond.selects_spec hsel
  cases hcls.symm.trans q1
  cases (State.methodFound?_of_named hnamed hy).symm.trans q2
  cases hnamed.symm.trans q3
  have hselP : selectMethod e.platform s.vm cellB.cls mk = .method mk := by rw [Launch.admits_selectMethod X.admits]; exact q4
  obtain ⟨vm₁, X₁, hstep₁⟩ := X.invokevirtual hexec hown hlink hnamed hmethM hstM hkP hkPi hy (a := b) (cell := cellB) hcell
    (fun z h => by rw [h] at hobj; cases hobj) hselP hmethM habM hkP hkPi (g := g) hg (argsL := argsL) (rest := rest) (hlen _ hsigM) hstack hdg
  obtain ⟨v, B, X', hpost, hsteps⟩ := hK m meth c ⟨T.setVm vm₁, locs, cells, slots⟩ { g with stack := rest } (.invokevirtual index) mk (Value.ref b :: argsL).toArray X₁ hg hsize hdg hW (X₁.named hnamed) (hpre vm₁ X₁.warmed)
  exact ⟨v, vm₁, B, X₁.warmed, X', hpost, fun target h => hstep₁ _ fun acts => by rw [doInvoke_state]; exact hsteps.trans h⟩
abbrev vx_CVW (R : Room) (s : State) (args : Array Value) (own C : String) (index : Nat) (y : MethodName) (bytes : ByteArray) (maxL : Nat) (ret : Option FieldType) (hh : List (Nat × Nat × Nat × Nat)) (ws : List Cond) (rm : Room) (mc ms n : Nat) : Prop :=
  (rm.cells = mc ∧ rm.slots = ms ∧ rm.frames + 1 ≤ R.frames ∧ 8 + (maxL + 11) + rm.locals ≤ R.locals ∧ (∀ w ∈ ws, ∀ (a' : Array Value) (U : State), s.WarmedH U.vm → w.before a' U = true) ∧ Cond.codeWith y bytes maxL ret hh ∈ ws) ∧
  (Cond.codeWith y bytes maxL ret hh).before args s = true ∧ (Cond.initialized y.cls).before args s = true ∧ (y.cls ≠ "java/lang/invoke/MethodHandle" ∧ y.cls ≠ "java/lang/invoke/VarHandle") ∧
  (∀ sig, parseMethodDescriptor y.desc = some sig → n = sig.parameters.length) ∧ (Cond.methodLink own index y).before args s = true ∧ (Cond.instanceMethod y).before args s = true ∧ (Cond.selects C y y).before args s = true
theorem vx_cwVW {own C : String} {index maxL mc ms : Nat} {y : MethodName} {bytes : ByteArray} {ret : Option FieldType} {hh : List (Nat × Nat × Nat × Nat)} {Ts ws ws' : List Cond} {rm : Room} (n : Nat) (ht : ∀ w ∈ Ts, w.before args s = true) (hT : GoodIn Ts (wsV own index C y ws)) (hw : ws = Cond.codeWith y bytes maxL ret hh :: ws') (hrc : rm.cells = mc) (hrs : rm.slots = ms)
    (hd : y.cls = C ∧ y.cls ≠ "java/lang/invoke/MethodHandle" ∧ y.cls ≠ "java/lang/invoke/VarHandle" ∧ (parseMethodDescriptor y.desc).map (fun d => d.parameters.length) = some n) (hR : rm.frames + 1 ≤ R.frames ∧ 8 + (maxL + 11) + rm.locals ≤ R.locals) :
    vx_CVW R s args own C index y bytes maxL ret hh ws rm mc ms n := by
  obtain ⟨hC, hd⟩ := hd
  subst hC
  have ok : ∀ w ∈ wsV own index y.cls y ws, w.before args s = true := fun w h => ht w (hT w h).1
  have hG : GoodIn Ts ws := fun w h => hT w (by unfold wsV; exact List.mem_append_right _ h)
  have hc : Cond.codeWith y bytes maxL ret hh ∈ ws := by rw [hw]; exact List.mem_cons_self
  refine ⟨⟨hrc, hrs, hR.1, hR.2, pay_in ht hG, hc⟩, ht _ (hG _ hc).1, ok _ (by simp [wsV]), ⟨hd.1, hd.2.1⟩, fun sig h => ?_, ok _ (by simp [wsV]), ok _ (by simp [wsV]), ok _ (by simp [wsV])⟩
  have h2 := hd.2.2
  rw [h] at h2
  exact (Option.some.inj h2).symm
theorem vx_runVW {y : MethodName} {bytes cc : ByteArray} {maxL nL mc ms n index : Nat} {ret : Option FieldType} {hh : List (Nat × Nat × Nat × Nat)} {ws : List Cond} {rm : Room} {Pc : Array Value → State → Prop} {Qc : Array Value → State → Outcome → State → Prop} {free : Addr → Prop} {Ts : List Cond} {own C : String} {b : Addr} {As rest : List Value} {g : JFrame}
    (S : CallFix p m c cc nL s args Ts own) (hM : Met l y ws rm Pc Qc mc ms free) (cw : vx_CVW R s args own C index y bytes maxL ret hh ws rm mc ms n) (hp : PreV s H C b Pc As)
    (hg : g.method = m) (hn : As.length = n) (hsize : g.locals.size = nL) (hstack : g.stack = As.reverse ++ .ref b :: rest) (hW : 2 * g.monitorRoom + (rest.map fun v => v.category).sum ≤ 8) (hdg : decode cc g.pc = .ok (.invokevirtual index, 3)) (hf : cells + mc ≤ R.cells ∧ slots + ms ≤ R.slots) :
    va_Run p l e R s m args below meth c H locs cells slots mc ms g rest (Qc (Value.ref b :: As).toArray) free := by
  obtain ⟨⟨hrc, hrs, hfr, hlo, hws, hcw⟩, hcode, hini, hy, hlen, hl, hin, hse⟩ := cw
  have hK : Back l R p e below s args y 3 8 (PreOf R mc ms Pc) (PostOf Qc mc ms free) := va_backW (hh := hh) (bytes := bytes) (maxL := maxL) (ret := ret) hM hp.1 hrc hrs hfr hlo hws hcw (fun a' U hW => word_at hW (Or.inl (by first | rfl | simp [Cond.onTables, Cond.keeps, Cond.steady])) hini)
  obtain ⟨hx, hb, hml, ho, -⟩ := S
  obtain ⟨-, ⟨cellB, hcB, hoB, hclB⟩, hPc⟩ := hp
  intro T hT X
  obtain ⟨v, vm₁, ⟨U', l2, c2, s2⟩, hW₁, X', ⟨g', mk, t, L, e1, e2, hq, h1, hL, h2, h3⟩, st⟩ := vx_callVW X hx (C := C) (hh := hh) (bytes := bytes) (maxL := maxL) (ret := ret) ho hl hin hse hcode hy hK (by rw [hT]; exact hcB) hoB hclB hg (hsize.trans hml.symm) (argsL := As) (rest := rest) (fun sig h => hn.trans (hlen sig h)) hstack hW (by rw [hb]; exact hdg)
    (fun vm₁ hW₁ => ⟨hf.1, hf.2, hPc (T.setVm vm₁) hT hW₁⟩)
  dsimp only [Pt.U, Pt.locs, Pt.cells, Pt.slots] at X' e1 e2 h1 h2 h3 st
  subst h1; subst h2; subst h3
  exact ⟨v, (T.setVm vm₁).calling g' mk (Value.ref b :: As).toArray, t, U', L, hT, X', hL, e1, e2, hq, st⟩
section
variable {y : MethodName} {bytes cc : ByteArray} {maxL nL mc ms n index : Nat} {ret : Option FieldType} {ws : List Cond} {rm : Room} {Pc : Array Value → State → Prop} {Qc : Array Value → State → Outcome → State → Prop} {XC : String → State → State → Prop} {free : Addr → Prop} {Ts : List Cond} {own C : String} {b : Addr} {As rest : List Value} {g : JFrame}
theorem vx_runVX {hh : List (Nat × Nat × Nat × Nat)} (S : CallFix p m c cc nL s args Ts own) (hM : vx_Met l y ws rm Pc Qc XC mc ms free) (cw : vx_CVW R s args own C index y bytes maxL ret hh ws rm mc ms n) (hp : PreV s H C b Pc As)
    (hg : g.method = m) (hn : As.length = n) (hsize : g.locals.size = nL) (hstack : g.stack = As.reverse ++ .ref b :: rest) (hW : 2 * g.monitorRoom + (rest.map fun v => v.category).sum ≤ 8) (hdg : decode cc g.pc = .ok (.invokevirtual index, 3)) (hf : cells + mc ≤ R.cells ∧ slots + ms ≤ R.slots) :
    vx_Run p l e R s m args below meth c H locs cells slots mc ms g rest (Qc (Value.ref b :: As).toArray) XC free := by
  obtain ⟨⟨hrc, hrs, hfr, hlo, hws, hcw⟩, hcode, hini, hy, hlen, hl, hin, hse⟩ := cw
  have hK : vx_Back l R p e below s args y 3 8 (PreOf R mc ms Pc) (PostOf Qc mc ms free) (vx_Post XC mc ms free) := vx_backW (hh := hh) (bytes := bytes) (maxL := maxL) (ret := ret) hM hp.1 hrc hrs hfr hlo hws hcw (fun a' U hW => word_at hW (Or.inl (by first | rfl | simp [Cond.onTables, Cond.keeps, Cond.steady])) hini)
  obtain ⟨hx, hb, hml, ho, -⟩ := S
  obtain ⟨-, ⟨cellB, hcB, hoB, hclB⟩, hPc⟩ := hp
  intro T hT X
  rcases vx_callVX X hx (C := C) (hh := hh) (bytes := bytes) (maxL := maxL) (ret := ret) ho hl hin hse hcode hy hK (by rw [hT]; exact hcB) hoB hclB hg (hsize.trans hml.symm) (argsL := As) (rest := rest) (fun sig h => hn.trans (hlen sig h)) hstack hW (by rw [hb]; exact hdg)
    (fun vm₁ hW₁ => ⟨hf.1, hf.2, hPc (T.setVm vm₁) hT hW₁⟩) with ⟨v, vm₁, ⟨U', l2, c2, s2⟩, hW₁, X', ⟨g', mk, t, L, e1, e2, hq, h1, hL, h2, h3⟩, st⟩ | ⟨q, vm₁, ⟨U', l2, c2, s2⟩, hW₁, X', ⟨g', mk, t, L, E, ce, e1, e2, hq, hce, hcv, hcl, h1, hL, h2, h3⟩, st⟩
  · dsimp only [Pt.U, Pt.locs, Pt.cells, Pt.slots] at X' e1 e2 h1 h2 h3 st
    subst h1; subst h2; subst h3
    exact Or.inl ⟨v, (T.setVm vm₁).calling g' mk (Value.ref b :: As).toArray, t, U', L, hT, X', hL, e1, e2, hq, st⟩
  · dsimp only [Pt.U, Pt.locs, Pt.cells, Pt.slots] at X' e1 e2 h1 h2 h3 st hcl
    subst h1; subst h2; subst h3
    exact Or.inr ⟨q, (T.setVm vm₁).calling g' mk (Value.ref b :: As).toArray, t, U', L, E, ce, hT, X', hL, e1, e2, hq, hce, hcv, vx_cls hW₁ hcl, st⟩
theorem vx_runSX {hh : List (Nat × Nat × Nat × Nat)} (S : CallFix p m c cc nL s args Ts own) (hM : vx_Met l y ws rm Pc Qc XC mc ms free) (cw : vx_CSW R s args own index y bytes maxL ret hh ws rm mc ms n) (hp : PreS s H Pc As)
    (hg : g.method = m) (hn : As.length = n) (hsize : g.locals.size = nL) (hstack : g.stack = As.reverse ++ rest) (hW : 2 * g.monitorRoom + (rest.map fun v => v.category).sum ≤ 8) (hdg : decode cc g.pc = .ok (.invokestatic index, 3)) (hf : cells + mc ≤ R.cells ∧ slots + ms ≤ R.slots) :
    vx_Run p l e R s m args below meth c H locs cells slots mc ms g rest (Qc As.toArray) XC free := by
  obtain ⟨⟨hrc, hrs, hfr, hlo, hws, hcw⟩, hcode, hini, hy, hlen, hl, hstt⟩ := cw
  have hK : vx_Back l R p e below s args y 3 8 (PreOf R mc ms Pc) (PostOf Qc mc ms free) (vx_Post XC mc ms free) := vx_backW (hh := hh) (bytes := bytes) (maxL := maxL) (ret := ret) hM hp.1 hrc hrs hfr hlo hws hcw (fun a' U hW => word_at hW (Or.inl (by first | rfl | simp [Cond.onTables, Cond.keeps, Cond.steady])) hini)
  obtain ⟨hx, hb, hml, ho, -⟩ := S
  intro T hT X
  rcases vx_callSX X hx (hh := hh) (bytes := bytes) (maxL := maxL) (ret := ret) ho hl hstt hini hcode hy hK hg (hsize.trans hml.symm) (argsL := As) (rest := rest) (fun sig h => hn.trans (hlen sig h)) hstack hW (by rw [hb]; exact hdg)
    (fun vm₁ hW₁ => ⟨hf.1, hf.2, hp.2 (T.setVm vm₁) hT hW₁⟩) with ⟨v, vm₁, ⟨U', l2, c2, s2⟩, hW₁, X', ⟨g', mk, t, L, e1, e2, hq, h1, hL, h2, h3⟩, st⟩ | ⟨q, vm₁, ⟨U', l2, c2, s2⟩, hW₁, X', ⟨g', mk, t, L, E, ce, e1, e2, hq, hce, hcv, hcl, h1, hL, h2, h3⟩, st⟩
  · dsimp only [Pt.U, Pt.locs, Pt.cells, Pt.slots] at X' e1 e2 h1 h2 h3 st
    subst h1; subst h2; subst h3
    exact Or.inl ⟨v, (T.setVm vm₁).calling g' mk As.toArray, t, U', L, hT, X', hL, e1, e2, hq, st⟩
  · dsimp only [Pt.U, Pt.locs, Pt.cells, Pt.slots] at X' e1 e2 h1 h2 h3 st hcl
    subst h1; subst h2; subst h3
    exact Or.inr ⟨q, (T.setVm vm₁).calling g' mk As.toArray, t, U', L, E, ce, hT, X', hL, e1, e2, hq, hce, hcv, vx_cls hW₁ hcl, st⟩
end
end VXH
theorem vx_ofWH {l : Launch} {y : MethodName} {ws ws' : List Cond} {rm : Room} {Pc : Array Value → State → Prop} {Qc : Array Value → State → Outcome → State → Prop} {XC : String → State → State → Prop} {mc ms : Nat} {free : Addr → Prop} {cc : ByteArray} {maxL : Nat} {ret : Option FieldType} {hh : List (Nat × Nat × Nat × Nat)}
    (hy : plainName y.cls = true) (hw : ws = Cond.codeWith y cc maxL ret hh :: ws')
    (body : ∀ p e s m args below meth c s₁, BodyLoose p l y (headSpec ws rm) cc maxL ret e s m args below meth c s₁ → c.maxLocals = maxL → Pc args s →
      W p l e (headSpec ws rm).room s m args below meth c s.heap [] 0 0 (vx_MQ below Qc XC args s mc ms free) (entryFrame m args maxL)) : vx_Met l y ws rm Pc Qc XC mc ms free := by
  refine MetFree.of_bodyS (code := cc) (maxLocals := maxL) (ret := ret) hy ?_ ?_
  · intro args s m h hn
    obtain ⟨m9, meth, c, hn9, h1, h2, h3, h4, -, h5, h6, -⟩ := Cond.codeWith_spec (atoms_spec (ws := ws) h _ (by rw [hw]; exact List.mem_cons_self))
    cases hn.symm.trans hn9
    exact ⟨meth, c, h1, h2, h3, h4, h5, h6⟩
  · intro p e s m args below meth c s₁ B hml hP _
    have hh0 : s₁.heap = s.heap := by rw [B.state]; rfl
    obtain ⟨t, a1, o, b1, b2, b3⟩ := body p e s m args below meth c s₁ B hml hP s₁ hh0 (Stand.of_body B)
    exact ⟨t, o, a1, b1, b2, b3⟩
/-! ===== END ===== -/

/-! ===== BEGIN what the machine throws by itself, no traces kept ===== -/
section VXM
set_option maxHeartbeats 1000000 in
/-- the machine throws cls with the message text, no traces kept: from its note over the frame g to 'throwing' over the same frame (follows the proofs of Stand.vmThrowsMessage, Shelf/KitTracedVmS.lean, and Stand.throwsMessageColdBareV, StandMessageColdV.lean, without the step out of the frame) -/
theorem vx_vmAt {p : Program} {l : Launch} {e : Env} {R : Room} {s : State} {m₀ : MethodId} {args : Array Value} {below : List Frame} {meth : Method} {c : Code} {W : State} {locs : List Loc} {cells slots : Nat}
    (X : Stand p l e R s m₀ args below meth c W locs cells slots) (hexec : p.tables.exec = Jvm.exec) (htr : e.platform.stackTraces = false) {cls : String} {names : List String} {text : String}
    (hcls : Bundle.fit cls = true) (hnames : ∀ n ∈ names, Bundle.fit n = true) (hsoe : (cls == "java/lang/StackOverflowError") = false) (hoom : (cls == "java/lang/OutOfMemoryError") = false)
    (h : ∀ a ∈ Bundle.messageArmAtoms cls names, a.before args s = true)
    (hlocs : ∀ x ∈ locs, ∀ cell, s.heap[x.base]? = some cell → cell.vm.isStatics = false)
    (htext : (text == notModelled) = false) (hlimit : ¬ (stringBytes (stringToUtf16 text)).size > e.platform.arrayLengthLimit) (hheap : ¬ (stringBytes (stringToUtf16 text)).size * componentBytes .byte > e.platform.maxHeapBytes)
    {g : JFrame} (hg : g.method = m₀) (hsize : g.locals.size = c.maxLocals)
    (hRframes : names.length + 4 < R.frames) (hRlocals : 2 * g.monitorRoom + (g.stack.map fun v => v.category).sum + 10240 ≤ R.locals) (hshort : 13 * names.length + 55 ≤ 10240)
    (hRcells : cells + 3 ≤ R.cells) (hRslots : slots + ((stringBytes (stringToUtf16 text)).size + 4 + 6) ≤ R.slots) (hlocks : meth.locks = false) :
    ∃ (S : State) (q : Addr) (ce : Cell), (∀ target, Steps p.tables e below ((S.setTop g).pushFrame (.throwing q)) target → Steps p.tables e below ((W.setTop g).pushFrame (.throwNew cls (some text) none)) target) ∧
      Stand p l e R s m₀ args below meth c S locs (cells + 3) (slots + ((stringBytes (stringToUtf16 text)).size + 4 + 6)) ∧ S.heap[q]? = some ce ∧ s.vm.findClass cls = some ce.cls ∧ ce.vm = .none := by
  have howns : e.platform.frameOwnsMonitors = true := by rw [X.admits.platform]
  have hfin : e.platform.finalization = false := by rw [X.admits.platform]
  have hpl : e.platform.magicAccessors = ({} : Platform).magicAccessors := by rw [X.admits.platform]
  have a : ∀ x, x ∈ Bundle.messageArmAtoms cls names → x.holds args s none s [] = true := fun x hx => h x hx
  obtain ⟨T, Z0, L, -, Y⟩ := ThrowableC.of_atoms (args := args) howns hfin hpl (fun x hx => h x (by simp [Bundle.messageArmAtoms, hx]))
  obtain ⟨Z, M, LZ, LM, hnZ⟩ := Init0T.ofS_atoms (args := args) hpl L Y (fun x hx => h x (by simp [Bundle.messageArmAtoms, hx]))
  obtain ⟨P1, Ps, hlen, L1, hL, hP1m, hlink1, hlink⟩ := Bundle.chainS (args := args) hpl hnZ names cls hcls hnames (fun x hx => h x (by simp [Bundle.messageArmAtoms, hx]))
  obtain ⟨Zs, LZs, hn4, hfitv, hfitc⟩ := StringT.of_atoms (args := args) (fun x hx => h x (by simp [Bundle.messageArmAtoms, hx]))
  have hfound : s.vm.findClass cls = some P1.m.cls := findClass_of_methodNamed hP1m
  obtain ⟨c1, kX, hc1, hk, hord, -, -, hn6⟩ := Cond.instantiable_spec (a (.instantiable cls 6) (by simp [Bundle.messageArmAtoms]))
  cases Option.some.inj (hc1.symm.trans hfound)
  have hinit := Cond.initialized_spec hfound hk (a (.initialized cls) (by simp [Bundle.messageArmAtoms]))
  have hctor : kX.findMethod "<init>" "(Ljava/lang/String;)V" = some P1.m.idx := findMethod_of_methodNamed hP1m hk
  have hsel0 : selectMethod e.platform s.vm P1.m.cls T.fill0 = .method T.fill0 := by
    obtain ⟨c2, r2, m2, q1, q2, q3, q4, -⟩ := Cond.selects_spec (a (.selects cls Bundle.tFill0 Bundle.tFill0) (by simp [Bundle.messageArmAtoms]))
    cases Option.some.inj (q1.symm.trans hfound)
    cases Option.some.inj (q2.symm.trans (State.methodFound?_of_named Y.fill0 (by decide)))
    cases Option.some.inj (q3.symm.trans Y.fill0)
    rw [Launch.admits_selectMethod X.admits]; exact q4
  have hselF : selectMethod e.platform s.vm P1.m.cls T.fill = .method T.fill := by
    obtain ⟨c2, r2, m2, q1, q2, q3, q4, -⟩ := Cond.selects_spec (a (.selects cls Bundle.tFill Bundle.tFill) (by simp [Bundle.messageArmAtoms]))
    cases Option.some.inj (q1.symm.trans hfound)
    cases Option.some.inj (q2.symm.trans (State.methodFound?_of_named Y.fill (by decide)))
    cases Option.some.inj (q3.symm.trans Y.fill)
    rw [Launch.admits_selectMethod X.admits]; exact q4
  obtain ⟨cellS0, hcS0, hiss⟩ := Y.statics
  obtain ⟨u0, hu0⟩ := Cond.staticRefV Y.unassigned L.unassignedStatic L.statics hcS0 hiss (a (.isRef (.static Bundle.tN "UNASSIGNED_STACK" Bundle.steD)) (by simp [Bundle.messageArmAtoms]))
  obtain ⟨sen, hsen⟩ := Cond.staticRefV Y.sentinel L.sentinelStatic L.statics hcS0 hiss (a (.isRef (.static Bundle.tN "SUPPRESSED_SENTINEL" Bundle.listD)) (by simp [Bundle.messageArmAtoms]))
  obtain ⟨ci198, i198, fB, hk198, hg198, ha198, hsB, -, hnB, htB, hffB⟩ := Cond.ownField (t := .object "java/lang/Object") Y.found L.cls (by decide +kernel) (a (.fieldLink Bundle.tN 198 Bundle.tN "backtrace" "Ljava/lang/Object;") (by simp [Bundle.messageArmAtoms])) (a (.lays Bundle.tN Bundle.tN "backtrace" "Ljava/lang/Object;") (by simp [Bundle.messageArmAtoms])) e.platform hpl
  obtain ⟨cellS, hcS', heS, -, hkeep⟩ := X.same.2.2.2.2.2 T.aS cellS0 hcS0
  have hcellS : W.heap[T.aS]? = some cellS := hcS'
  have hout' : ∀ i, (⟨T.aS, i⟩ : Loc) ∉ locs := fun i hmem => by
    have := hlocs _ hmem cellS0 hcS0
    rw [hiss] at this; cases this
  have hknownS : cellS.vm ≠ .unknown := by
    rw [heS]; intro hu
    rw [show cellS0.vm = .unknown from hu] at hiss
    cases hiss
  have hvU : cellS.slots[T.fUnassigned.slot]? = some u0.v := by rw [hkeep _ (hout' _)]; exact hu0
  have hvSen : cellS.slots[T.fSentinel.slot]? = some sen.v := by rw [hkeep _ (hout' _)]; exact hsen
  obtain ⟨iM, hffM⟩ := Y.msg
  obtain ⟨tyC, dC, hdC, hdnC⟩ := Cond.laysAt hfound hk Y.cause (a (.lays cls Bundle.tN "cause" "Ljava/lang/Throwable;") (by simp [Bundle.messageArmAtoms]))
  obtain ⟨tyS, dS, hdS, hdnS⟩ := Cond.laysAt hfound hk Y.stack (a (.lays cls Bundle.tN "stackTrace" Bundle.steD) (by simp [Bundle.messageArmAtoms]))
  obtain ⟨tyP, dP, hdP, hdnP⟩ := Cond.laysAt hfound hk Y.supp (a (.lays cls Bundle.tN "suppressedExceptions" Bundle.listD) (by simp [Bundle.messageArmAtoms]))
  obtain ⟨tyM, dM, hdM, hdnM⟩ := Cond.laysAt hfound hk hffM (a (.lays cls Bundle.tN "detailMessage" "Ljava/lang/String;") (by simp [Bundle.messageArmAtoms]))
  obtain ⟨tyB, dB, hdB, hdnB⟩ := Cond.laysAt hfound hk hffB (a (.lays cls Bundle.tN "backtrace" "Ljava/lang/Object;") (by simp [Bundle.messageArmAtoms]))
  have bC := Cond.laysApart hdB hdC hdnB hdnC (by rw [hnB, Y.causeName]; decide)
  have bS := Cond.laysApart hdB hdS hdnB hdnS (by rw [hnB, Y.stackName]; decide)
  have bP := Cond.laysApart hdB hdP hdnB hdnP (by rw [hnB, Y.suppName]; decide)
  have hbk : ((preparedCellV T.toThrowableT (freshCell P1.m.cls kX) (W.heap.size + 2) u0 sen).withEntry W.cur).slots[fB.slot]? = some .null := by
    have := fresh_default (c := P1.m.cls) tyB
    rw [htB] at this
    simpa [preparedCellV, Cell.setSlot, Cell.withEntry, Array.getElem?_setIfInBounds, bC, bS, bP, bC.symm, bS.symm, bP.symm, defaultValue] using this
  have tkC := Takes.of_laid (v := .ref (W.heap.size + 2)) hk hord tyC (by rw [Y.causeType]; rfl)
  have tkS := Takes.of_laid (v := u0.v) hk hord tyS (by rw [Y.stackType]; exact fits_refV_array _ u0)
  have tkP := Takes.of_laid (v := sen.v) hk hord tyP (by rw [Y.suppType]; exact fits_refV_object _ sen)
  have tkM := Takes.of_laid (v := .ref (W.heap.size + 1)) hk hord tyM (by rw [Y.msgType]; rfl)
  have hskip : SkipFacts T e.platform s (fun u => u) u0 ((preparedCellV T.toThrowableT (freshCell P1.m.cls kX) (W.heap.size + 2) u0 sen).withEntry W.cur) := ⟨{ ci198 := ci198, i198 := i198, fBack := fB }, ⟨hk198, hg198, ha198, hsB⟩, hbk, fun _ _ => rfl⟩
  have h0 : At W g.method c below := by rw [hg]; exact X.here
  obtain ⟨hbeyond, hfreeW⟩ := X.vmMayThrow hsize (.throwNew cls (some text) none) (fun f hf => by cases hf) rfl hRlocals
  have hfr' : W.frames.length + Ps.length + 4 < (e.platform.stackLimits W.me).1 := by have := X.framesAbove hRframes; omega
  have hwd' : (stackUse (.java g :: W.frames.tail)).2 + 13 * Ps.length + 55 ≤ (e.platform.stackLimits W.me).2 := by have := X.stackAbove hsize (K := 13 * Ps.length + 55) (by omega); omega
  have hslots : W.slotsUsed + (stringBytes (stringToUtf16 text)).size + Zs.kS.instanceTypes.size + kX.instanceTypes.size ≤ e.platform.maxSlots := by
    have := X.slotsAbove hRslots
    rw [hn4, hn6]
    omega
  obtain ⟨vm', hW', st⟩ := Steps.vmThrowsMessageColdByV p (s₀ := s) (S := W) (g := g) h0 hexec T L Z LZ M LM X.warmed (t := W.cur) rfl Zs LZs P1 L1 Ps hL hlink1 hlink hsoe hoom hfound hk hinit hord hctor
    (Launch.admits_hotImplicitExceptions X.admits) hbeyond hfreeW htext hlimit hheap (X.cellsAbove hRcells) hslots (hfitv _) (hfitc _)
    (Nn := fun u => u) heapOnly_id (fun _ _ => rfl) (fun _ => rfl) (fun u x y => setCell_twice _ _ _ _) (fun _ => Nat.le_refl _) (cN := ((preparedCellV T.toThrowableT (freshCell P1.m.cls kX) (W.heap.size + 2) u0 sen).withEntry W.cur))
    hsel0 hcellS hknownS hvU tkS (fun _ hu => hu) (fun _ hu => hu) rfl rfl rfl (by simp [preparedCellV, Cell.setSlot, Cell.withEntry]) hskip (fun _ _ hA hW _ hroom _ hrest => L.nativeOff p htr hA hW hroom hrest) hselF hvSen tkC tkP tkM Y.objLocals rfl hfr' hwd'
  rw [plainBareV_eq T.toThrowableT (W.heap.size + 2) u0 sen (.ref (W.heap.size + 1)) W.cur rfl rfl] at st
  obtain ⟨-, -, w3, w4, -, -, -⟩ := withThrown_facts e.platform W Zs text P1.m.cls kX
  have X3 := ((X.pushed (bytesOf Zs.cB (stringToUtf16 text))).pushed (stringAt Zs.cS Zs.kS Zs.fv Zs.fc (stringToUtf16 text) W.heap.size)).pushed (freshCell P1.m.cls kX)
  rw [← withString_eq] at X3
  have X4 := X3.noted hW'
  have ha : (W.heap.size + 2) < ((withThrown W Zs text P1.m.cls kX).setVm vm').heap.size := by show _ < (withThrown W Zs text P1.m.cls kX).heap.size; rw [w3]; omega
  have hcell : ((withThrown W Zs text P1.m.cls kX).setVm vm').heap[(W.heap.size + 2)]? = some (freshCell P1.m.cls kX) := w4
  have X5 := ((((X4.stored hcell T.fCause.slot (.ref (W.heap.size + 2))).storedAgain ha T.fStack.slot u0.v).storedAgain ha T.fSupp.slot sen.v).storedAgain ha T.fStack.slot u0.v).storedAgain ha T.fMsg.slot (.ref (W.heap.size + 1))
  obtain ⟨g₁, hfrM⟩ := X5.frames_eq
  have hU : ((((withThrown W Zs text P1.m.cls kX).setVm vm').setCell (W.heap.size + 2) (plainBareV T.toThrowableT (freshCell P1.m.cls kX) (W.heap.size + 2) u0 sen (.ref (W.heap.size + 1)))).setTop g).pushFrame (.throwing (W.heap.size + 2)) = (((withThrown W Zs text P1.m.cls kX).setVm vm').setCell (W.heap.size + 2) (plainBareV T.toThrowableT (freshCell P1.m.cls kX) (W.heap.size + 2) u0 sen (.ref (W.heap.size + 1)))).setFrames (.throwing (W.heap.size + 2) :: .java g :: below) := by
    rw [State.pushFrame, State.frames_setTop _ hfrM, State.setTop_of_frames _ hfrM, State.setFrames_setFrames]
  have b1 : (bytesOf Zs.cB (stringToUtf16 text)).slots.size = (stringBytes (stringToUtf16 text)).size := by
    rw [(Cell.writeAll_facts _ _).2.2]; simp [bytes0]
  have b2 : (stringAt Zs.cS Zs.kS Zs.fv Zs.fc (stringToUtf16 text) W.heap.size).slots.size = 4 := by simp [string0, Cell.setSlot, hn4]
  have b3 : (freshCell P1.m.cls kX).slots.size = 6 := by simp [hn6]
  rw [b1, b2, b3] at X5
  have e9 : slots + (stringBytes (stringToUtf16 text)).size + 4 + 6 = slots + ((stringBytes (stringToUtf16 text)).size + 4 + 6) := by omega
  rw [e9] at X5
  simp only [List.append_assoc, List.cons_append, List.nil_append] at X5
  refine ⟨((withThrown W Zs text P1.m.cls kX).setVm vm').setCell (W.heap.size + 2) (plainBareV T.toThrowableT (freshCell P1.m.cls kX) (W.heap.size + 2) u0 sen (.ref (W.heap.size + 1))), W.heap.size + 2, _, fun target ht => st _ (by rw [X.tail, ← hU]; exact ht),
    X5.forget (fun y hy => ?_), heapAt_setCell_self _ ha, hfound, rfl⟩
  simp only [List.mem_cons, List.not_mem_nil, or_false] at hy
  have hge : s.heap.size ≤ W.heap.size := X.same.2.1
  rcases hy with rfl | rfl | rfl | rfl | rfl <;> exact Nat.le_trans hge (Nat.le_add_right _ 2)
set_option maxHeartbeats 1000000 in
/-- the machine throws NullPointerException, no traces kept: from its note over the frame g to 'throwing' over the same frame (follows the proof of Stand.vmThrowsNpe, Shelf42/KT2.lean; throwsNpeColdBareVAt, Shelf42/NT91.lean, called) -/
theorem vx_npeAt {p : Program} {l : Launch} {e : Env} {R : Room} {s : State} {m₀ : MethodId} {args : Array Value} {below : List Frame} {meth : Method} {c : Code} {W : State} {locs : List Loc} {cells slots : Nat}
    (X : Stand p l e R s m₀ args below meth c W locs cells slots) (hexec : p.tables.exec = Jvm.exec) (htr : e.platform.stackTraces = false) {n : Nat}
    (h : ∀ a ∈ Bundle.npeArmAtoms n, a.before args s = true)
    (hlocs : ∀ x ∈ locs, ∀ cell, s.heap[x.base]? = some cell → cell.vm.isStatics = false)
    {g : JFrame} (hg : g.method = m₀) (hsize : g.locals.size = c.maxLocals)
    (hRframes : 7 < R.frames) (hRlocals : 2 * g.monitorRoom + (g.stack.map fun v => v.category).sum + 10240 ≤ R.locals)
    (hRcells : cells + 1 ≤ R.cells) (hRslots : slots + n ≤ R.slots) (hlocks : meth.locks = false) :
    ∃ (S : State) (q : Addr) (ce : Cell), (∀ target, Steps p.tables e below ((S.setTop g).pushFrame (.throwing q)) target → Steps p.tables e below ((W.setTop g).pushFrame (.throwNew "java/lang/NullPointerException" none none)) target) ∧
      Stand p l e R s m₀ args below meth c S locs (cells + 1) (slots + n) ∧ S.heap[q]? = some ce ∧ s.vm.findClass "java/lang/NullPointerException" = some ce.cls ∧ ce.vm = .none := by
  have howns : e.platform.frameOwnsMonitors = true := by rw [X.admits.platform]
  have hfin : e.platform.finalization = false := by rw [X.admits.platform]
  have hpl : e.platform.magicAccessors = ({} : Platform).magicAccessors := by rw [X.admits.platform]
  have hpl2 : e.platform.arrayCloneIsPublic = true := by rw [X.admits.platform]
  have a' : ∀ x, x ∈ Bundle.npeArmAtoms n → x.holds args s none s [] = true := fun x hx => h x hx
  obtain ⟨T, Z, L, LZ, Y⟩ := ThrowableC.of_atoms (args := args) howns hfin hpl (fun x hx => h x (by simp [Bundle.npeArmAtoms, hx]))
  obtain ⟨N, LN, hcN, hnNF, hordN, hffS⟩ := NpeC.of_atoms (args := args) hpl hpl2 L Y (fun x hx => h x (by simp [Bundle.npeArmAtoms, hx]))
  obtain ⟨P1, L1, hP1m, hP1s⟩ := PassC.of_atoms (args := args) (s := s) hpl (X := Bundle.nN) (Y := Bundle.rN) (by decide) (by decide) LibCode.NullPointerException.Init0.at_0 LibCode.NullPointerException.Init0.at_1 LibCode.NullPointerException.Init0.at_4 (fun x hx => h x (by simp [Bundle.npeArmAtoms, hx]))
  obtain ⟨PR, LR, hPRm, hPRs⟩ := PassC.of_atoms (args := args) (s := s) hpl (X := Bundle.rN) (Y := Bundle.eN) (by decide) (by decide) LibCode.RuntimeException.Init0.at_0 LibCode.RuntimeException.Init0.at_1 LibCode.RuntimeException.Init0.at_4 (fun x hx => h x (by simp [Bundle.npeArmAtoms, hx]))
  obtain ⟨PE, LEx, hPEm, hPEs⟩ := PassC.of_atoms (args := args) (s := s) hpl (X := Bundle.eN) (Y := Bundle.tN) (by decide) (by decide) LibCode.Exception.Init0.at_0 LibCode.Exception.Init0.at_1 LibCode.Exception.Init0.at_4 (fun x hx => h x (by simp [Bundle.npeArmAtoms, hx]))
  have hfound : s.vm.findClass Bundle.nN = some P1.m.cls := findClass_of_methodNamed hP1m
  have ecls : N.cN = P1.m.cls := Option.some.inj (hcN.symm.trans hfound)
  have hk : s.vm.classes[P1.m.cls]? = some N.kN := by rw [← ecls]; exact LN.cls
  have hinit := Cond.initialized_spec hfound hk (a' (.initialized Bundle.nN) (by simp [Bundle.npeArmAtoms]))
  have hctor : N.kN.findMethod "<init>" "()V" = some P1.m.idx := findMethod_of_methodNamed hP1m hk
  obtain ⟨c1, k1, hc1, hk1, -, -, -, hn⟩ := Cond.instantiable_spec (a' (.instantiable Bundle.nN n) (by simp [Bundle.npeArmAtoms]))
  cases Option.some.inj (hc1.symm.trans hfound)
  cases Option.some.inj (hk1.symm.trans hk)
  have hfsz : (freshCell P1.m.cls N.kN).slots.size = n := by simp [hn]
  have hlink1 : P1.sup = PR.m := Option.some.inj (hP1s.symm.trans hPRm)
  have hlinkR : PR.sup = PE.m := Option.some.inj (hPRs.symm.trans hPEm)
  have hlinkE : PE.sup = Z.m T.toThrowableT := Option.some.inj (hPEs.symm.trans Y.init0)
  have hLs : ∀ P, P ∈ [PR, PE] → P.Links0 e.platform s := fun P hP => by
    simp only [List.mem_cons, List.not_mem_nil, or_false] at hP
    rcases hP with rfl | rfl
    · exact LR
    · exact LEx
  have hsel0 : selectMethod e.platform s.vm P1.m.cls T.fill0 = .method T.fill0 := by
    obtain ⟨c2, r2, m2, q1, q2, q3, q4, -⟩ := Cond.selects_spec (a' (.selects Bundle.nN Bundle.tFill0 Bundle.tFill0) (by simp [Bundle.npeArmAtoms]))
    cases Option.some.inj (q1.symm.trans hfound)
    cases Option.some.inj (q2.symm.trans (State.methodFound?_of_named Y.fill0 (by decide)))
    cases Option.some.inj (q3.symm.trans Y.fill0)
    rw [Launch.admits_selectMethod X.admits]; exact q4
  have hselF : selectMethod e.platform s.vm P1.m.cls T.fill = .method N.fill := by
    obtain ⟨c2, r2, m2, q1, q2, q3, q4, -⟩ := Cond.selects_spec (a' (.selects Bundle.nN Bundle.tFill Bundle.nFill) (by simp [Bundle.npeArmAtoms]))
    cases Option.some.inj (q1.symm.trans hfound)
    cases Option.some.inj (q2.symm.trans (State.methodFound?_of_named Y.fill (by decide)))
    cases Option.some.inj (q3.symm.trans hnNF)
    rw [Launch.admits_selectMethod X.admits]; exact q4
  obtain ⟨cellS0, hcS0, hiss⟩ := Y.statics
  obtain ⟨u0, hu0⟩ := Cond.staticRefV Y.unassigned L.unassignedStatic L.statics hcS0 hiss (a' (.isRef (.static Bundle.tN "UNASSIGNED_STACK" Bundle.steD)) (by simp [Bundle.npeArmAtoms]))
  obtain ⟨sen, hsen⟩ := Cond.staticRefV Y.sentinel L.sentinelStatic L.statics hcS0 hiss (a' (.isRef (.static Bundle.tN "SUPPRESSED_SENTINEL" Bundle.listD)) (by simp [Bundle.npeArmAtoms]))
  obtain ⟨ci198, i198, fB, hk198, hg198, ha198, hsB, -, hnB, htB, hffB⟩ := Cond.ownField (t := .object "java/lang/Object") Y.found L.cls (by decide +kernel) (a' (.fieldLink Bundle.tN 198 Bundle.tN "backtrace" Bundle.objD) (by simp [Bundle.npeArmAtoms])) (a' (.lays Bundle.tN Bundle.tN "backtrace" Bundle.objD) (by simp [Bundle.npeArmAtoms])) e.platform hpl
  obtain ⟨cellS, hcS', heS, -, hkeep⟩ := X.same.2.2.2.2.2 T.aS cellS0 hcS0
  have hcellS : W.heap[T.aS]? = some cellS := hcS'
  have hout' : ∀ i, (⟨T.aS, i⟩ : Loc) ∉ locs := fun i hmem => by
    have := hlocs _ hmem cellS0 hcS0
    rw [hiss] at this; cases this
  have hknownS : cellS.vm ≠ .unknown := by
    rw [heS]; intro hu
    rw [show cellS0.vm = .unknown from hu] at hiss
    cases hiss
  have hvU : cellS.slots[T.fUnassigned.slot]? = some u0.v := by rw [hkeep _ (hout' _)]; exact hu0
  have hvSen : cellS.slots[T.fSentinel.slot]? = some sen.v := by rw [hkeep _ (hout' _)]; exact hsen
  obtain ⟨tyC, dC, hdC, hdnC⟩ := Cond.laysAt hfound hk Y.cause (a' (.lays Bundle.nN Bundle.tN "cause" "Ljava/lang/Throwable;") (by simp [Bundle.npeArmAtoms]))
  obtain ⟨tyS, dS, hdS, hdnS⟩ := Cond.laysAt hfound hk Y.stack (a' (.lays Bundle.nN Bundle.tN "stackTrace" Bundle.steD) (by simp [Bundle.npeArmAtoms]))
  obtain ⟨tyP, dP, hdP, hdnP⟩ := Cond.laysAt hfound hk Y.supp (a' (.lays Bundle.nN Bundle.tN "suppressedExceptions" Bundle.listD) (by simp [Bundle.npeArmAtoms]))
  obtain ⟨tyX, dX, hdX, hdnX⟩ := Cond.laysAt hfound hk hffS (a' (.lays Bundle.nN Bundle.nN "extendedMessageState" "I") (by simp [Bundle.npeArmAtoms, Bundle.npeAtoms]))
  obtain ⟨hnX, htX⟩ := State.fieldFound?_type hffS (t := .int) (by decide +kernel)
  have xC := Cond.laysApart hdC hdX hdnC hdnX (by rw [hnX, Y.causeName]; decide)
  have xS := Cond.laysApart hdS hdX hdnS hdnX (by rw [hnX, Y.stackName]; decide)
  have xP := Cond.laysApart hdP hdX hdnP hdnX (by rw [hnX, Y.suppName]; decide)
  have hv0 : (freshCell P1.m.cls N.kN).slots[N.fState.slot]? = some (.int 0) := by
    have := fresh_default (c := P1.m.cls) tyX
    rw [htX] at this; exact this
  obtain ⟨tyB, dB, hdB, hdnB⟩ := Cond.laysAt hfound hk hffB (a' (.lays Bundle.nN Bundle.tN "backtrace" Bundle.objD) (by simp [Bundle.npeArmAtoms]))
  have bC := Cond.laysApart hdB hdC hdnB hdnC (by rw [hnB, Y.causeName]; decide)
  have bS := Cond.laysApart hdB hdS hdnB hdnS (by rw [hnB, Y.stackName]; decide)
  have bP := Cond.laysApart hdB hdP hdnB hdnP (by rw [hnB, Y.suppName]; decide)
  have bX := Cond.laysApart hdB hdX hdnB hdnX (by rw [hnB, hnX]; decide)
  have hbk : ((npeCell N.toNpeT (preparedCellV T.toThrowableT (freshCell P1.m.cls N.kN) W.heap.size u0 sen) W.cur).withEntry W.cur).slots[fB.slot]? = some .null := by
    have := fresh_default (c := P1.m.cls) tyB
    rw [htB] at this
    simpa [npeCell, preparedCellV, Cell.setSlot, Cell.withEntry, Array.getElem?_setIfInBounds, bC, bS, bP, bX, bC.symm, bS.symm, bP.symm, bX.symm, defaultValue] using this
  have tkC := Takes.of_laid (v := .ref W.heap.size) hk hordN tyC (by rw [Y.causeType]; rfl)
  have tkS := Takes.of_laid (v := u0.v) hk hordN tyS (by rw [Y.stackType]; exact fits_refV_array _ u0)
  have tkP := Takes.of_laid (v := sen.v) hk hordN tyP (by rw [Y.suppType]; exact fits_refV_object _ sen)
  have tkX := Takes.of_laid (v := .int 1) hk hordN tyX (by rw [htX]; rfl)
  have hskip : SkipFacts T e.platform s (fun u => u) u0 ((npeCell N.toNpeT (preparedCellV T.toThrowableT (freshCell P1.m.cls N.kN) W.heap.size u0 sen) W.cur).withEntry W.cur) := ⟨{ ci198 := ci198, i198 := i198, fBack := fB }, ⟨hk198, hg198, ha198, hsB⟩, hbk, fun _ _ => rfl⟩
  obtain ⟨vm', X3, st, -⟩ := X.throwsNpeColdBareVAt hexec hg hsize T L Z LZ N LN P1 L1 [PR, PE] hLs hlink1 ⟨hlinkR, hlinkE, trivial⟩ hfound hk hinit hordN hctor hsel0 hselF hcellS hknownS hvU hvSen
    hv0 xC xS xP tkC tkS tkP tkX Y.objLocals hskip (fun _ _ hA hW _ hroom _ hrest => L.nativeOff p htr hA hW hroom hrest) (by simpa using hRframes) hRlocals (by simp) hRcells (by rw [hn]; exact hRslots)
  have hlt : W.heap.size < ((W.pushCell (freshCell P1.m.cls N.kN)).setVm vm').heap.size := by
    show W.heap.size < (W.pushCell (freshCell P1.m.cls N.kN)).heap.size
    rw [State.heap_size_pushCell]; omega
  rw [hfsz] at X3
  obtain ⟨g₁, hfrM⟩ := X3.frames_eq
  have hU : ((((W.pushCell (freshCell P1.m.cls N.kN)).setVm vm').setCell W.heap.size (npeBareV T.toThrowableT N.toNpeT (freshCell P1.m.cls N.kN) W.heap.size u0 sen)).setTop g).pushFrame (.throwing W.heap.size) = (((W.pushCell (freshCell P1.m.cls N.kN)).setVm vm').setCell W.heap.size (npeBareV T.toThrowableT N.toNpeT (freshCell P1.m.cls N.kN) W.heap.size u0 sen)).setFrames (.throwing W.heap.size :: .java g :: below) := by
    rw [State.pushFrame, State.frames_setTop _ hfrM, State.setTop_of_frames _ hfrM, State.setFrames_setFrames]
  refine ⟨_, W.heap.size, _, fun target ht => st.trans (by rw [← hU]; exact ht), X3.forget (fun y hy => ?_), heapAt_setCell_self _ hlt, hfound, rfl⟩
  simp only [List.mem_cons, List.not_mem_nil, or_false] at hy
  have hge : s.heap.size ≤ W.heap.size := X.same.2.1
  rcases hy with rfl | rfl | rfl | rfl | rfl <;> exact hge
/-- the words of a machine's NullPointerException, but the four that speak of the heap -/
def vx_atN (n : Nat) : List Cond := (Bundle.npeArmAtoms n).filter vx_no
/-- the words of a machine's throw with a message, but the four that speak of the heap -/
def vx_atM (X : String) (names : List String) : List Cond := (Bundle.messageArmAtoms X names).filter vx_no
section
variable {p : Program} {l : Launch} {e : Env} {R : Room} {s : State} {m : MethodId} {args : Array Value} {below : List Frame} {meth : Method} {c : Code} {H : Heap} {locs : List Loc} {cells slots : Nat}
/-- a frame seen from a rebased start, seen from the first start again -/
theorem vx_back9 {T S : State} {R' : Room} {k n : Nat} (X : Stand p l e R s m args below meth c T locs cells slots) (Y : Stand p l e R' ((T.setVm s.vm).setFrames (.invoking m args :: below)) m args below meth c T [] 0 0) (Z : Stand p l e R' ((T.setVm s.vm).setFrames (.invoking m args :: below)) m args below meth c S [] k n) :
    Stand p l e R s m args below meth c S locs (cells + k) (slots + n) := by
  have hW0 : s.WarmedH ((T.setVm s.vm).setFrames (.invoking m args :: below)).vm := State.WarmedH.refl s
  refine { admits := X.admits, cas := X.cas, clock := X.clock, frames := X.frames, room := X.room, hears := X.hears, method := X.method, code := X.code, here := Z.here, tail := Z.tail, warmed := State.WarmedH.trans hW0 Z.warmed, limits := Z.limits.trans (Y.limits.symm.trans X.limits), bytes := Z.bytes.trans (Y.bytes.symm.trans X.bytes), same := ?_ }
  obtain ⟨e1, e2⟩ := Z.same
  rw [State.setFrames_setFrames] at e1
  have h2 : (T.setVm s.vm).sameButNew (S.setVm s.vm) [] k n := ⟨e1, e2⟩
  have h3 := X.same.trans h2
  rw [List.append_nil] at h3
  exact h3
/-- from the machine's note that E is thrown here with this text -/
def vx_Note (p : Program) (l : Launch) (e : Env) (R : Room) (s : State) (m : MethodId) (args : Array Value) (below : List Frame) (meth : Method) (c : Code) (H : Heap) (locs : List Loc) (cells slots : Nat) (Q : State → Prop) (g : JFrame) (E text : String) : Prop :=
  ∀ T : State, T.heap = H → Stand p l e R s m args below meth c T locs cells slots → ∃ t, Steps p.tables e below ((T.setTop g).pushFrame (.throwNew E (some text) none)) t ∧ Q t
theorem vx_vm {pc : Nat} {ls : Array Slot} {rest : List Value} {Q : State → Prop} (hexec : p.tables.exec = Jvm.exec) (hl : l.stackTraces = false) {cls text : String} {names : List String} {nb : Nat} {A : Nat → Prop}
    (hcls : Bundle.fit cls = true) (hnames : ∀ n ∈ names, Bundle.fit n = true) (hsoe : (cls == "java/lang/StackOverflowError") = false) (hoom : (cls == "java/lang/OutOfMemoryError") = false)
    (hat : ∀ w ∈ vx_atM cls names, w.before args s = true) (hgood : ∀ w ∈ vx_atM cls names, vx_ot w = true)
    (hU : vx_Zq Bundle.tN "UNASSIGNED_STACK" Bundle.steD A s s.heap) (hN : vx_Zq Bundle.tN "SUPPRESSED_SENTINEL" Bundle.listD A s s.heap) (hS : va_S A s.heap H locs) (hsize : ls.size = c.maxLocals)
    (htext : (text == notModelled) = false) (hnb : (stringBytes (stringToUtf16 text)).size ≤ nb) (hnb1 : nb ≤ 1000)
    (hRframes : names.length + 4 < R.frames) (hRlocals : (rest.map fun v => v.category).sum + 10240 ≤ R.locals) (hshort : 13 * names.length + 55 ≤ 10240) (hRcells : cells + 3 ≤ R.cells) (hRslots : slots + (nb + 10) ≤ R.slots) (hlocks : meth.locks = false)
    (k : ∀ (H1 : Heap) (q9 : Addr) (ce : Cell), H.size ≤ H1.size → (∀ q : Nat, q < H.size → H1[q]? = H[q]?) → va_S A s.heap H1 locs → H1[q9]? = some ce → ce.vm = .none → s.vm.findClass cls = some ce.cls → vx_W p l e R s m args below meth c H1 locs (cells + 3) (slots + (nb + 10)) Q (F0 m pc ls rest) q9) :
    vx_Note p l e R s m args below meth c H locs cells slots Q (F0 m pc ls rest) cls text := by
  intro T hT X
  have htr : e.platform.stackTraces = false := (show e.platform.stackTraces = l.stackTraces by rw [X.admits.platform]).trans hl
  have Y := vx_rebase X (R' := { frames := R.frames, locals := R.locals, cells := 3, slots := nb + 10 }) (Nat.le_refl _) (Nat.le_refl _) hRcells hRslots
  have hhp : ((T.setVm s.vm).setFrames (.invoking m args :: below)).heap = H := hT
  have hW0 : s.WarmedH ((T.setVm s.vm).setFrames (.invoking m args :: below)).vm := State.WarmedH.refl s
  have hat' : ∀ w ∈ vx_atM cls names, w.before args ((T.setVm s.vm).setFrames (.invoking m args :: below)) = true := fun w hw => vx_ot_at hW0 rfl (hgood w hw) (hat w hw)
  have hU' : vx_Zq Bundle.tN "UNASSIGNED_STACK" Bundle.steD A ((T.setVm s.vm).setFrames (.invoking m args :: below)) ((T.setVm s.vm).setFrames (.invoking m args :: below)).heap := by rw [hhp]; exact vx_Zq.moved hW0.alike (hU.kept hS.2.1)
  have hN' : vx_Zq Bundle.tN "SUPPRESSED_SENTINEL" Bundle.listD A ((T.setVm s.vm).setFrames (.invoking m args :: below)) ((T.setVm s.vm).setFrames (.invoking m args :: below)).heap := by rw [hhp]; exact vx_Zq.moved hW0.alike (hN.kept hS.2.1)
  obtain ⟨S, q, ce, st, Z, hce, hcl', hv⟩ := vx_vmAt Y hexec htr (cls := cls) (names := names) (text := text) hcls hnames hsoe hoom (vx_own hat' (vx_isRefq hU'.1) (vx_isRefq hN'.1) hU'.2.word hN'.2.word) (fun x hx => nomatch hx) htext
    (by rw [Launch.admits_arrayLengthLimit X.admits]; omega) (by rw [Launch.admits_maxHeapBytes X.admits]; simp only [componentBytes]; omega)
    (g := F0 m pc ls rest) rfl hsize hRframes (by show 2 * 0 + (rest.map fun v => v.category).sum + 10240 ≤ R.locals; omega) hshort (by show 0 + 3 ≤ 3; omega) (by show 0 + (_ + 4 + 6) ≤ nb + 10; omega) hlocks
  obtain ⟨f1, f2⟩ := vx_frame Z.same
  have f1' : H.size ≤ S.heap.size := by rw [← hT]; exact f1
  have f2' : ∀ q : Nat, q < H.size → S.heap[q]? = H[q]? := fun q hq => by
    rw [← hT]
    exact f2 q (by rw [← hT] at hq; exact hq) (fun z hz => nomatch hz)
  have X5 := vx_back9 X Y Z
  have X6 : Stand p l e R s m args below meth c S locs (cells + 3) (slots + (nb + 10)) := { X5 with same := X5.same.mono (by omega) (by omega) }
  obtain ⟨t, a1, b1⟩ := k S.heap q ce f1' f2' ⟨Nat.le_trans hS.1 f1', fun q h1 h2 => (f2' q (Nat.lt_of_lt_of_le h1 hS.1)).trans (hS.2.1 q h1 h2), hS.2.2⟩ hce hv hcl' S rfl X6
  exact ⟨t, st t a1, b1⟩
/-- from the machine's note that NullPointerException is thrown here -/
def vx_NoteN (p : Program) (l : Launch) (e : Env) (R : Room) (s : State) (m : MethodId) (args : Array Value) (below : List Frame) (meth : Method) (c : Code) (H : Heap) (locs : List Loc) (cells slots : Nat) (Q : State → Prop) (g : JFrame) : Prop :=
  ∀ T : State, T.heap = H → Stand p l e R s m args below meth c T locs cells slots → ∃ t, Steps p.tables e below ((T.setTop g).pushFrame (.throwNew "java/lang/NullPointerException" none none)) t ∧ Q t
theorem vx_npe {pc : Nat} {ls : Array Slot} {rest : List Value} {Q : State → Prop} (hexec : p.tables.exec = Jvm.exec) (hl : l.stackTraces = false) {nb : Nat} {A : Nat → Prop}
    (hat : ∀ w ∈ vx_atN nb, w.before args s = true) (hgood : ∀ w ∈ vx_atN nb, vx_ot w = true)
    (hU : vx_Zq Bundle.tN "UNASSIGNED_STACK" Bundle.steD A s s.heap) (hN : vx_Zq Bundle.tN "SUPPRESSED_SENTINEL" Bundle.listD A s s.heap) (hS : va_S A s.heap H locs) (hsize : ls.size = c.maxLocals)
    (hRframes : 7 < R.frames) (hRlocals : (rest.map fun v => v.category).sum + 10240 ≤ R.locals) (hRcells : cells + 1 ≤ R.cells) (hRslots : slots + nb ≤ R.slots) (hlocks : meth.locks = false)
    (k : ∀ (H1 : Heap) (q9 : Addr) (ce : Cell), H.size ≤ H1.size → (∀ q : Nat, q < H.size → H1[q]? = H[q]?) → va_S A s.heap H1 locs → H1[q9]? = some ce → ce.vm = .none → s.vm.findClass "java/lang/NullPointerException" = some ce.cls → vx_W p l e R s m args below meth c H1 locs (cells + 1) (slots + nb) Q (F0 m pc ls rest) q9) :
    vx_NoteN p l e R s m args below meth c H locs cells slots Q (F0 m pc ls rest) := by
  intro T hT X
  have htr : e.platform.stackTraces = false := (show e.platform.stackTraces = l.stackTraces by rw [X.admits.platform]).trans hl
  have Y := vx_rebase X (R' := { frames := R.frames, locals := R.locals, cells := 1, slots := nb }) (Nat.le_refl _) (Nat.le_refl _) hRcells hRslots
  have hhp : ((T.setVm s.vm).setFrames (.invoking m args :: below)).heap = H := hT
  have hW0 : s.WarmedH ((T.setVm s.vm).setFrames (.invoking m args :: below)).vm := State.WarmedH.refl s
  have hat' : ∀ w ∈ vx_atN nb, w.before args ((T.setVm s.vm).setFrames (.invoking m args :: below)) = true := fun w hw => vx_ot_at hW0 rfl (hgood w hw) (hat w hw)
  have hU' : vx_Zq Bundle.tN "UNASSIGNED_STACK" Bundle.steD A ((T.setVm s.vm).setFrames (.invoking m args :: below)) ((T.setVm s.vm).setFrames (.invoking m args :: below)).heap := by rw [hhp]; exact vx_Zq.moved hW0.alike (hU.kept hS.2.1)
  have hN' : vx_Zq Bundle.tN "SUPPRESSED_SENTINEL" Bundle.listD A ((T.setVm s.vm).setFrames (.invoking m args :: below)) ((T.setVm s.vm).setFrames (.invoking m args :: below)).heap := by rw [hhp]; exact vx_Zq.moved hW0.alike (hN.kept hS.2.1)
  obtain ⟨S, q, ce, st, Z, hce, hcl', hv⟩ := vx_npeAt Y hexec htr (n := nb) (vx_own hat' (vx_isRefq hU'.1) (vx_isRefq hN'.1) hU'.2.word hN'.2.word) (fun x hx => nomatch hx)
    (g := F0 m pc ls rest) rfl hsize hRframes (by show 2 * 0 + (rest.map fun v => v.category).sum + 10240 ≤ R.locals; omega) (by show 0 + 1 ≤ 1; omega) (by show 0 + nb ≤ nb; omega) hlocks
  obtain ⟨f1, f2⟩ := vx_frame Z.same
  have f1' : H.size ≤ S.heap.size := by rw [← hT]; exact f1
  have f2' : ∀ q : Nat, q < H.size → S.heap[q]? = H[q]? := fun q hq => by
    rw [← hT]
    exact f2 q (by rw [← hT] at hq; exact hq) (fun z hz => nomatch hz)
  have X5 := vx_back9 X Y Z
  have X6 : Stand p l e R s m args below meth c S locs (cells + 1) (slots + nb) := { X5 with same := X5.same.mono (by omega) (by omega) }
  obtain ⟨t, a1, b1⟩ := k S.heap q ce f1' f2' ⟨Nat.le_trans hS.1 f1', fun q h1 h2 => (f2' q (Nat.lt_of_lt_of_le h1 hS.1)).trans (hS.2.1 q h1 h2), hS.2.2⟩ hce hv hcl' S rfl X6
  exact ⟨t, st t a1, b1⟩
variable {Q : State → Prop} {cc : ByteArray} {pc : Nat} {ls : Array Slot} {rest : List Value}
theorem vx_idivZ (hexec : p.tables.exec = Jvm.exec) (hb : c.code = cc) {a b : Int32} (h0 : b = 0) (d : decode cc pc = .ok (.idiv, 1)) (k : vx_Note p l e R s m args below meth c H locs cells slots Q (F0 m pc ls rest) "java/lang/ArithmeticException" "/ by zero") :
    W p l e R s m args below meth c H locs cells slots Q (F0 m pc ls (.int b :: .int a :: rest)) := by
  intro T hT X
  obtain ⟨t, st, q⟩ := k T hT X
  exact ⟨t, X.idivZero hexec (g := F0 m pc ls (.int b :: .int a :: rest)) rfl (a := a) (rest := rest) (by rw [h0]) (by rw [hb]; exact d) t st, q⟩
theorem vx_iremZ (hexec : p.tables.exec = Jvm.exec) (hb : c.code = cc) {a b : Int32} (h0 : b = 0) (d : decode cc pc = .ok (.irem, 1)) (k : vx_Note p l e R s m args below meth c H locs cells slots Q (F0 m pc ls rest) "java/lang/ArithmeticException" "/ by zero") :
    W p l e R s m args below meth c H locs cells slots Q (F0 m pc ls (.int b :: .int a :: rest)) := by
  intro T hT X
  obtain ⟨t, st, q⟩ := k T hT X
  exact ⟨t, X.iremZero hexec (g := F0 m pc ls (.int b :: .int a :: rest)) rfl (a := a) (rest := rest) (by rw [h0]) (by rw [hb]; exact d) t st, q⟩
theorem vx_ldivZ (hexec : p.tables.exec = Jvm.exec) (hb : c.code = cc) {a b : Int64} (h0 : b = 0) (d : decode cc pc = .ok (.ldiv, 1)) (k : vx_Note p l e R s m args below meth c H locs cells slots Q (F0 m pc ls rest) "java/lang/ArithmeticException" "/ by zero") :
    W p l e R s m args below meth c H locs cells slots Q (F0 m pc ls (.long b :: .long a :: rest)) := by
  intro T hT X
  obtain ⟨t, st, q⟩ := k T hT X
  exact ⟨t, X.ldivZero hexec (g := F0 m pc ls (.long b :: .long a :: rest)) rfl (a := a) (rest := rest) (by rw [h0]) (by rw [hb]; exact d) t st, q⟩
theorem vx_lremZ (hexec : p.tables.exec = Jvm.exec) (hb : c.code = cc) {a b : Int64} (h0 : b = 0) (d : decode cc pc = .ok (.lrem, 1)) (k : vx_Note p l e R s m args below meth c H locs cells slots Q (F0 m pc ls rest) "java/lang/ArithmeticException" "/ by zero") :
    W p l e R s m args below meth c H locs cells slots Q (F0 m pc ls (.long b :: .long a :: rest)) := by
  intro T hT X
  obtain ⟨t, st, q⟩ := k T hT X
  exact ⟨t, X.lremZero hexec (g := F0 m pc ls (.long b :: .long a :: rest)) rfl (a := a) (rest := rest) (by rw [h0]) (by rw [hb]; exact d) t st, q⟩
theorem vx_ialdZ {D : va_G} {cl : List vw_C} {ws : va_W} {tys : List (ClassId × FieldType)} {a : Nat} (hexec : p.tables.exec = Jvm.exec) (hb : c.code = cc) (hK : va_K D cl tys s) (hP : va_P D cl ws H) (q0 t0 : Nat) {cA : ClassId} {n : Nat} {f : Nat → Int32} (ha : ws[q0]? = some (a, .inl (cA, n, .inl f))) (ht : tys[t0]? = some (cA, .int)) {i : Int32} (hout : ¬ vp_in i n) (hdg : decode cc pc = .ok (.iaload, 1))
    (k : ∀ tx : String, tx = (toString "Index " ++ toString i ++ toString " out of bounds for length " ++ toString n : String) → vx_Note p l e R s m args below meth c H locs cells slots Q (F0 m pc ls rest) "java/lang/ArrayIndexOutOfBoundsException" tx) : W p l e R s m args below meth c H locs cells slots Q (F0 m pc ls (.int i :: .ref a :: rest)) := by
  intro T hT X
  obtain ⟨t, st, q⟩ := k _ rfl T hT X
  refine ⟨t, ?_, q⟩
  have h1 := X.ialoadOut hexec (by rw [hT]; exact hP q0 _ ha) ((hK.2 t0 _ ht).1 n (fun j => .int (f j))) (j := i) (by show (i < 0 ∨ (arrV _ _ _).slots.size ≤ _); rw [arrV_size]; exact Classical.byContradiction hout) (g := F0 m pc ls (.int i :: .ref a :: rest)) rfl (rest := rest) rfl (by rw [hb]; exact hdg) t
  simp only [arrV_size] at h1
  exact h1 st
theorem vx_iastZ {D : va_G} {cl : List vw_C} {ws : va_W} {tys : List (ClassId × FieldType)} {a : Nat} (hexec : p.tables.exec = Jvm.exec) (hb : c.code = cc) (hK : va_K D cl tys s) (hP : va_P D cl ws H) (q0 t0 : Nat) {cA : ClassId} {n : Nat} {f : Nat → Int32} (ha : ws[q0]? = some (a, .inl (cA, n, .inl f))) (ht : tys[t0]? = some (cA, .int)) {i : Int32} {x : Int32} (hout : ¬ vp_in i n) (hdg : decode cc pc = .ok (.iastore, 1))
    (k : ∀ tx : String, tx = (toString "Index " ++ toString i ++ toString " out of bounds for length " ++ toString n : String) → vx_Note p l e R s m args below meth c H locs cells slots Q (F0 m pc ls rest) "java/lang/ArrayIndexOutOfBoundsException" tx) : W p l e R s m args below meth c H locs cells slots Q (F0 m pc ls (.int x :: .int i :: .ref a :: rest)) := by
  intro T hT X
  obtain ⟨t, st, q⟩ := k _ rfl T hT X
  refine ⟨t, ?_, q⟩
  have h1 := X.iastoreOut hexec (by rw [hT]; exact hP q0 _ ha) ((hK.2 t0 _ ht).1 n (fun j => .int (f j))) (j := i) (by show (i < 0 ∨ (arrV _ _ _).slots.size ≤ _); rw [arrV_size]; exact Classical.byContradiction hout) (g := F0 m pc ls (.int x :: .int i :: .ref a :: rest)) rfl (rest := rest) rfl (by rw [hb]; exact hdg) t
  simp only [arrV_size] at h1
  exact h1 st
theorem vx_baldZ {D : va_G} {cl : List vw_C} {ws : va_W} {tys : List (ClassId × FieldType)} {a : Nat} (hexec : p.tables.exec = Jvm.exec) (hb : c.code = cc) (hK : va_K D cl tys s) (hP : va_P D cl ws H) (q0 t0 : Nat) {cA : ClassId} {n : Nat} {f : Nat → Int32} (ha : ws[q0]? = some (a, .inl (cA, n, .inl f))) (ht : tys[t0]? = some (cA, .byte)) {i : Int32} (hout : ¬ vp_in i n) (hdg : decode cc pc = .ok (.baload, 1))
    (k : ∀ tx : String, tx = (toString "Index " ++ toString i ++ toString " out of bounds for length " ++ toString n : String) → vx_Note p l e R s m args below meth c H locs cells slots Q (F0 m pc ls rest) "java/lang/ArrayIndexOutOfBoundsException" tx) : W p l e R s m args below meth c H locs cells slots Q (F0 m pc ls (.int i :: .ref a :: rest)) := by
  intro T hT X
  obtain ⟨t, st, q⟩ := k _ rfl T hT X
  refine ⟨t, ?_, q⟩
  have h1 := X.baloadOut hexec (by rw [hT]; exact hP q0 _ ha) ((hK.2 t0 _ ht).1 n (fun j => .int (f j))) (j := i) (by show (i < 0 ∨ (arrV _ _ _).slots.size ≤ _); rw [arrV_size]; exact Classical.byContradiction hout) (g := F0 m pc ls (.int i :: .ref a :: rest)) rfl (rest := rest) rfl (by rw [hb]; exact hdg) t
  simp only [arrV_size] at h1
  exact h1 st
theorem vx_bastZ {D : va_G} {cl : List vw_C} {ws : va_W} {tys : List (ClassId × FieldType)} {a : Nat} (hexec : p.tables.exec = Jvm.exec) (hb : c.code = cc) (hK : va_K D cl tys s) (hP : va_P D cl ws H) (q0 t0 : Nat) {cA : ClassId} {n : Nat} {f : Nat → Int32} (ha : ws[q0]? = some (a, .inl (cA, n, .inl f))) (ht : tys[t0]? = some (cA, .byte)) {i : Int32} {x : Int32} (hout : ¬ vp_in i n) (hdg : decode cc pc = .ok (.bastore, 1))
    (k : ∀ tx : String, tx = (toString "Index " ++ toString i ++ toString " out of bounds for length " ++ toString n : String) → vx_Note p l e R s m args below meth c H locs cells slots Q (F0 m pc ls rest) "java/lang/ArrayIndexOutOfBoundsException" tx) : W p l e R s m args below meth c H locs cells slots Q (F0 m pc ls (.int x :: .int i :: .ref a :: rest)) := by
  intro T hT X
  obtain ⟨t, st, q⟩ := k _ rfl T hT X
  refine ⟨t, ?_, q⟩
  have h1 := X.bastoreOut hexec (by rw [hT]; exact hP q0 _ ha) ((hK.2 t0 _ ht).1 n (fun j => .int (f j))) (j := i) (by show (i < 0 ∨ (arrV _ _ _).slots.size ≤ _); rw [arrV_size]; exact Classical.byContradiction hout) (g := F0 m pc ls (.int x :: .int i :: .ref a :: rest)) rfl (rest := rest) rfl (by rw [hb]; exact hdg) t
  simp only [arrV_size] at h1
  exact h1 st
theorem vx_zaldZ {D : va_G} {cl : List vw_C} {ws : va_W} {tys : List (ClassId × FieldType)} {a : Nat} (hexec : p.tables.exec = Jvm.exec) (hb : c.code = cc) (hK : va_K D cl tys s) (hP : va_P D cl ws H) (q0 t0 : Nat) {cA : ClassId} {n : Nat} {f : Nat → Int32} (ha : ws[q0]? = some (a, .inl (cA, n, .inl f))) (ht : tys[t0]? = some (cA, .boolean)) {i : Int32} (hout : ¬ vp_in i n) (hdg : decode cc pc = .ok (.baload, 1))
    (k : ∀ tx : String, tx = (toString "Index " ++ toString i ++ toString " out of bounds for length " ++ toString n : String) → vx_Note p l e R s m args below meth c H locs cells slots Q (F0 m pc ls rest) "java/lang/ArrayIndexOutOfBoundsException" tx) : W p l e R s m args below meth c H locs cells slots Q (F0 m pc ls (.int i :: .ref a :: rest)) := by
  intro T hT X
  obtain ⟨t, st, q⟩ := k _ rfl T hT X
  refine ⟨t, ?_, q⟩
  have h1 := X.baloadOut hexec (by rw [hT]; exact hP q0 _ ha) ((hK.2 t0 _ ht).1 n (fun j => .int (f j))) (j := i) (by show (i < 0 ∨ (arrV _ _ _).slots.size ≤ _); rw [arrV_size]; exact Classical.byContradiction hout) (g := F0 m pc ls (.int i :: .ref a :: rest)) rfl (rest := rest) rfl (by rw [hb]; exact hdg) t
  simp only [arrV_size] at h1
  exact h1 st
theorem vx_zastZ {D : va_G} {cl : List vw_C} {ws : va_W} {tys : List (ClassId × FieldType)} {a : Nat} (hexec : p.tables.exec = Jvm.exec) (hb : c.code = cc) (hK : va_K D cl tys s) (hP : va_P D cl ws H) (q0 t0 : Nat) {cA : ClassId} {n : Nat} {f : Nat → Int32} (ha : ws[q0]? = some (a, .inl (cA, n, .inl f))) (ht : tys[t0]? = some (cA, .boolean)) {i : Int32} {x : Int32} (hout : ¬ vp_in i n) (hdg : decode cc pc = .ok (.bastore, 1))
    (k : ∀ tx : String, tx = (toString "Index " ++ toString i ++ toString " out of bounds for length " ++ toString n : String) → vx_Note p l e R s m args below meth c H locs cells slots Q (F0 m pc ls rest) "java/lang/ArrayIndexOutOfBoundsException" tx) : W p l e R s m args below meth c H locs cells slots Q (F0 m pc ls (.int x :: .int i :: .ref a :: rest)) := by
  intro T hT X
  obtain ⟨t, st, q⟩ := k _ rfl T hT X
  refine ⟨t, ?_, q⟩
  have h1 := X.bastoreOut hexec (by rw [hT]; exact hP q0 _ ha) ((hK.2 t0 _ ht).1 n (fun j => .int (f j))) (j := i) (by show (i < 0 ∨ (arrV _ _ _).slots.size ≤ _); rw [arrV_size]; exact Classical.byContradiction hout) (g := F0 m pc ls (.int x :: .int i :: .ref a :: rest)) rfl (rest := rest) rfl (by rw [hb]; exact hdg) t
  simp only [arrV_size] at h1
  exact h1 st
theorem vx_caldZ {D : va_G} {cl : List vw_C} {ws : va_W} {tys : List (ClassId × FieldType)} {a : Nat} (hexec : p.tables.exec = Jvm.exec) (hb : c.code = cc) (hK : va_K D cl tys s) (hP : va_P D cl ws H) (q0 t0 : Nat) {cA : ClassId} {n : Nat} {f : Nat → Int32} (ha : ws[q0]? = some (a, .inl (cA, n, .inl f))) (ht : tys[t0]? = some (cA, .char)) {i : Int32} (hout : ¬ vp_in i n) (hdg : decode cc pc = .ok (.caload, 1))
    (k : ∀ tx : String, tx = (toString "Index " ++ toString i ++ toString " out of bounds for length " ++ toString n : String) → vx_Note p l e R s m args below meth c H locs cells slots Q (F0 m pc ls rest) "java/lang/ArrayIndexOutOfBoundsException" tx) : W p l e R s m args below meth c H locs cells slots Q (F0 m pc ls (.int i :: .ref a :: rest)) := by
  intro T hT X
  obtain ⟨t, st, q⟩ := k _ rfl T hT X
  refine ⟨t, ?_, q⟩
  have h1 := X.caloadOut hexec (by rw [hT]; exact hP q0 _ ha) ((hK.2 t0 _ ht).1 n (fun j => .int (f j))) (j := i) (by show (i < 0 ∨ (arrV _ _ _).slots.size ≤ _); rw [arrV_size]; exact Classical.byContradiction hout) (g := F0 m pc ls (.int i :: .ref a :: rest)) rfl (rest := rest) rfl (by rw [hb]; exact hdg) t
  simp only [arrV_size] at h1
  exact h1 st
theorem vx_castZ {D : va_G} {cl : List vw_C} {ws : va_W} {tys : List (ClassId × FieldType)} {a : Nat} (hexec : p.tables.exec = Jvm.exec) (hb : c.code = cc) (hK : va_K D cl tys s) (hP : va_P D cl ws H) (q0 t0 : Nat) {cA : ClassId} {n : Nat} {f : Nat → Int32} (ha : ws[q0]? = some (a, .inl (cA, n, .inl f))) (ht : tys[t0]? = some (cA, .char)) {i : Int32} {x : Int32} (hout : ¬ vp_in i n) (hdg : decode cc pc = .ok (.castore, 1))
    (k : ∀ tx : String, tx = (toString "Index " ++ toString i ++ toString " out of bounds for length " ++ toString n : String) → vx_Note p l e R s m args below meth c H locs cells slots Q (F0 m pc ls rest) "java/lang/ArrayIndexOutOfBoundsException" tx) : W p l e R s m args below meth c H locs cells slots Q (F0 m pc ls (.int x :: .int i :: .ref a :: rest)) := by
  intro T hT X
  obtain ⟨t, st, q⟩ := k _ rfl T hT X
  refine ⟨t, ?_, q⟩
  have h1 := X.castoreOut hexec (by rw [hT]; exact hP q0 _ ha) ((hK.2 t0 _ ht).1 n (fun j => .int (f j))) (j := i) (by show (i < 0 ∨ (arrV _ _ _).slots.size ≤ _); rw [arrV_size]; exact Classical.byContradiction hout) (g := F0 m pc ls (.int x :: .int i :: .ref a :: rest)) rfl (rest := rest) rfl (by rw [hb]; exact hdg) t
  simp only [arrV_size] at h1
  exact h1 st
theorem vx_saldZ {D : va_G} {cl : List vw_C} {ws : va_W} {tys : List (ClassId × FieldType)} {a : Nat} (hexec : p.tables.exec = Jvm.exec) (hb : c.code = cc) (hK : va_K D cl tys s) (hP : va_P D cl ws H) (q0 t0 : Nat) {cA : ClassId} {n : Nat} {f : Nat → Int32} (ha : ws[q0]? = some (a, .inl (cA, n, .inl f))) (ht : tys[t0]? = some (cA, .short)) {i : Int32} (hout : ¬ vp_in i n) (hdg : decode cc pc = .ok (.saload, 1))
    (k : ∀ tx : String, tx = (toString "Index " ++ toString i ++ toString " out of bounds for length " ++ toString n : String) → vx_Note p l e R s m args below meth c H locs cells slots Q (F0 m pc ls rest) "java/lang/ArrayIndexOutOfBoundsException" tx) : W p l e R s m args below meth c H locs cells slots Q (F0 m pc ls (.int i :: .ref a :: rest)) := by
  intro T hT X
  obtain ⟨t, st, q⟩ := k _ rfl T hT X
  refine ⟨t, ?_, q⟩
  have h1 := X.saloadOut hexec (by rw [hT]; exact hP q0 _ ha) ((hK.2 t0 _ ht).1 n (fun j => .int (f j))) (j := i) (by show (i < 0 ∨ (arrV _ _ _).slots.size ≤ _); rw [arrV_size]; exact Classical.byContradiction hout) (g := F0 m pc ls (.int i :: .ref a :: rest)) rfl (rest := rest) rfl (by rw [hb]; exact hdg) t
  simp only [arrV_size] at h1
  exact h1 st
theorem vx_sastZ {D : va_G} {cl : List vw_C} {ws : va_W} {tys : List (ClassId × FieldType)} {a : Nat} (hexec : p.tables.exec = Jvm.exec) (hb : c.code = cc) (hK : va_K D cl tys s) (hP : va_P D cl ws H) (q0 t0 : Nat) {cA : ClassId} {n : Nat} {f : Nat → Int32} (ha : ws[q0]? = some (a, .inl (cA, n, .inl f))) (ht : tys[t0]? = some (cA, .short)) {i : Int32} {x : Int32} (hout : ¬ vp_in i n) (hdg : decode cc pc = .ok (.sastore, 1))
    (k : ∀ tx : String, tx = (toString "Index " ++ toString i ++ toString " out of bounds for length " ++ toString n : String) → vx_Note p l e R s m args below meth c H locs cells slots Q (F0 m pc ls rest) "java/lang/ArrayIndexOutOfBoundsException" tx) : W p l e R s m args below meth c H locs cells slots Q (F0 m pc ls (.int x :: .int i :: .ref a :: rest)) := by
  intro T hT X
  obtain ⟨t, st, q⟩ := k _ rfl T hT X
  refine ⟨t, ?_, q⟩
  have h1 := X.sastoreOut hexec (by rw [hT]; exact hP q0 _ ha) ((hK.2 t0 _ ht).1 n (fun j => .int (f j))) (j := i) (by show (i < 0 ∨ (arrV _ _ _).slots.size ≤ _); rw [arrV_size]; exact Classical.byContradiction hout) (g := F0 m pc ls (.int x :: .int i :: .ref a :: rest)) rfl (rest := rest) rfl (by rw [hb]; exact hdg) t
  simp only [arrV_size] at h1
  exact h1 st
theorem vx_laldZ {D : va_G} {cl : List vw_C} {ws : va_W} {tys : List (ClassId × FieldType)} {a : Nat} (hexec : p.tables.exec = Jvm.exec) (hb : c.code = cc) (hK : va_K D cl tys s) (hP : va_P D cl ws H) (q0 t0 : Nat) {cA : ClassId} {n : Nat} {f : Nat → Int64} (ha : ws[q0]? = some (a, .inl (cA, n, .inr (.inl f)))) (ht : tys[t0]? = some (cA, .long)) {i : Int32} (hout : ¬ vp_in i n) (hdg : decode cc pc = .ok (.laload, 1))
    (k : ∀ tx : String, tx = (toString "Index " ++ toString i ++ toString " out of bounds for length " ++ toString n : String) → vx_Note p l e R s m args below meth c H locs cells slots Q (F0 m pc ls rest) "java/lang/ArrayIndexOutOfBoundsException" tx) : W p l e R s m args below meth c H locs cells slots Q (F0 m pc ls (.int i :: .ref a :: rest)) := by
  intro T hT X
  obtain ⟨t, st, q⟩ := k _ rfl T hT X
  refine ⟨t, ?_, q⟩
  have h1 := X.laloadOut hexec (by rw [hT]; exact hP q0 _ ha) ((hK.2 t0 _ ht).1 n (fun j => .long (f j))) (j := i) (by show (i < 0 ∨ (arrV _ _ _).slots.size ≤ _); rw [arrV_size]; exact Classical.byContradiction hout) (g := F0 m pc ls (.int i :: .ref a :: rest)) rfl (rest := rest) rfl (by rw [hb]; exact hdg) t
  simp only [arrV_size] at h1
  exact h1 st
theorem vx_lastZ {D : va_G} {cl : List vw_C} {ws : va_W} {tys : List (ClassId × FieldType)} {a : Nat} (hexec : p.tables.exec = Jvm.exec) (hb : c.code = cc) (hK : va_K D cl tys s) (hP : va_P D cl ws H) (q0 t0 : Nat) {cA : ClassId} {n : Nat} {f : Nat → Int64} (ha : ws[q0]? = some (a, .inl (cA, n, .inr (.inl f)))) (ht : tys[t0]? = some (cA, .long)) {i : Int32} {x : Int64} (hout : ¬ vp_in i n) (hdg : decode cc pc = .ok (.lastore, 1))
    (k : ∀ tx : String, tx = (toString "Index " ++ toString i ++ toString " out of bounds for length " ++ toString n : String) → vx_Note p l e R s m args below meth c H locs cells slots Q (F0 m pc ls rest) "java/lang/ArrayIndexOutOfBoundsException" tx) : W p l e R s m args below meth c H locs cells slots Q (F0 m pc ls (.long x :: .int i :: .ref a :: rest)) := by
  intro T hT X
  obtain ⟨t, st, q⟩ := k _ rfl T hT X
  refine ⟨t, ?_, q⟩
  have h1 := X.lastoreOut hexec (by rw [hT]; exact hP q0 _ ha) ((hK.2 t0 _ ht).1 n (fun j => .long (f j))) (j := i) (by show (i < 0 ∨ (arrV _ _ _).slots.size ≤ _); rw [arrV_size]; exact Classical.byContradiction hout) (g := F0 m pc ls (.long x :: .int i :: .ref a :: rest)) rfl (rest := rest) rfl (by rw [hb]; exact hdg) t
  simp only [arrV_size] at h1
  exact h1 st
theorem vx_faldZ {D : va_G} {cl : List vw_C} {ws : va_W} {tys : List (ClassId × FieldType)} {a : Nat} (hexec : p.tables.exec = Jvm.exec) (hb : c.code = cc) (hK : va_K D cl tys s) (hP : va_P D cl ws H) (q0 t0 : Nat) {cA : ClassId} {n : Nat} {f : Nat → UInt32} (ha : ws[q0]? = some (a, .inl (cA, n, .inr (.inr (.inl f))))) (ht : tys[t0]? = some (cA, .float)) {i : Int32} (hout : ¬ vp_in i n) (hdg : decode cc pc = .ok (.faload, 1))
    (k : ∀ tx : String, tx = (toString "Index " ++ toString i ++ toString " out of bounds for length " ++ toString n : String) → vx_Note p l e R s m args below meth c H locs cells slots Q (F0 m pc ls rest) "java/lang/ArrayIndexOutOfBoundsException" tx) : W p l e R s m args below meth c H locs cells slots Q (F0 m pc ls (.int i :: .ref a :: rest)) := by
  intro T hT X
  obtain ⟨t, st, q⟩ := k _ rfl T hT X
  refine ⟨t, ?_, q⟩
  have h1 := X.faloadOut hexec (by rw [hT]; exact hP q0 _ ha) ((hK.2 t0 _ ht).1 n (fun j => .float (f j))) (j := i) (by show (i < 0 ∨ (arrV _ _ _).slots.size ≤ _); rw [arrV_size]; exact Classical.byContradiction hout) (g := F0 m pc ls (.int i :: .ref a :: rest)) rfl (rest := rest) rfl (by rw [hb]; exact hdg) t
  simp only [arrV_size] at h1
  exact h1 st
theorem vx_fastZ {D : va_G} {cl : List vw_C} {ws : va_W} {tys : List (ClassId × FieldType)} {a : Nat} (hexec : p.tables.exec = Jvm.exec) (hb : c.code = cc) (hK : va_K D cl tys s) (hP : va_P D cl ws H) (q0 t0 : Nat) {cA : ClassId} {n : Nat} {f : Nat → UInt32} (ha : ws[q0]? = some (a, .inl (cA, n, .inr (.inr (.inl f))))) (ht : tys[t0]? = some (cA, .float)) {i : Int32} {x : UInt32} (hout : ¬ vp_in i n) (hdg : decode cc pc = .ok (.fastore, 1))
    (k : ∀ tx : String, tx = (toString "Index " ++ toString i ++ toString " out of bounds for length " ++ toString n : String) → vx_Note p l e R s m args below meth c H locs cells slots Q (F0 m pc ls rest) "java/lang/ArrayIndexOutOfBoundsException" tx) : W p l e R s m args below meth c H locs cells slots Q (F0 m pc ls (.float x :: .int i :: .ref a :: rest)) := by
  intro T hT X
  obtain ⟨t, st, q⟩ := k _ rfl T hT X
  refine ⟨t, ?_, q⟩
  have h1 := X.fastoreOut hexec (by rw [hT]; exact hP q0 _ ha) ((hK.2 t0 _ ht).1 n (fun j => .float (f j))) (j := i) (by show (i < 0 ∨ (arrV _ _ _).slots.size ≤ _); rw [arrV_size]; exact Classical.byContradiction hout) (g := F0 m pc ls (.float x :: .int i :: .ref a :: rest)) rfl (rest := rest) rfl (by rw [hb]; exact hdg) t
  simp only [arrV_size] at h1
  exact h1 st
theorem vx_daldZ {D : va_G} {cl : List vw_C} {ws : va_W} {tys : List (ClassId × FieldType)} {a : Nat} (hexec : p.tables.exec = Jvm.exec) (hb : c.code = cc) (hK : va_K D cl tys s) (hP : va_P D cl ws H) (q0 t0 : Nat) {cA : ClassId} {n : Nat} {f : Nat → UInt64} (ha : ws[q0]? = some (a, .inl (cA, n, .inr (.inr (.inr (.inl f)))))) (ht : tys[t0]? = some (cA, .double)) {i : Int32} (hout : ¬ vp_in i n) (hdg : decode cc pc = .ok (.daload, 1))
    (k : ∀ tx : String, tx = (toString "Index " ++ toString i ++ toString " out of bounds for length " ++ toString n : String) → vx_Note p l e R s m args below meth c H locs cells slots Q (F0 m pc ls rest) "java/lang/ArrayIndexOutOfBoundsException" tx) : W p l e R s m args below meth c H locs cells slots Q (F0 m pc ls (.int i :: .ref a :: rest)) := by
  intro T hT X
  obtain ⟨t, st, q⟩ := k _ rfl T hT X
  refine ⟨t, ?_, q⟩
  have h1 := X.daloadOut hexec (by rw [hT]; exact hP q0 _ ha) ((hK.2 t0 _ ht).1 n (fun j => .double (f j))) (j := i) (by show (i < 0 ∨ (arrV _ _ _).slots.size ≤ _); rw [arrV_size]; exact Classical.byContradiction hout) (g := F0 m pc ls (.int i :: .ref a :: rest)) rfl (rest := rest) rfl (by rw [hb]; exact hdg) t
  simp only [arrV_size] at h1
  exact h1 st
theorem vx_dastZ {D : va_G} {cl : List vw_C} {ws : va_W} {tys : List (ClassId × FieldType)} {a : Nat} (hexec : p.tables.exec = Jvm.exec) (hb : c.code = cc) (hK : va_K D cl tys s) (hP : va_P D cl ws H) (q0 t0 : Nat) {cA : ClassId} {n : Nat} {f : Nat → UInt64} (ha : ws[q0]? = some (a, .inl (cA, n, .inr (.inr (.inr (.inl f)))))) (ht : tys[t0]? = some (cA, .double)) {i : Int32} {x : UInt64} (hout : ¬ vp_in i n) (hdg : decode cc pc = .ok (.dastore, 1))
    (k : ∀ tx : String, tx = (toString "Index " ++ toString i ++ toString " out of bounds for length " ++ toString n : String) → vx_Note p l e R s m args below meth c H locs cells slots Q (F0 m pc ls rest) "java/lang/ArrayIndexOutOfBoundsException" tx) : W p l e R s m args below meth c H locs cells slots Q (F0 m pc ls (.double x :: .int i :: .ref a :: rest)) := by
  intro T hT X
  obtain ⟨t, st, q⟩ := k _ rfl T hT X
  refine ⟨t, ?_, q⟩
  have h1 := X.dastoreOut hexec (by rw [hT]; exact hP q0 _ ha) ((hK.2 t0 _ ht).1 n (fun j => .double (f j))) (j := i) (by show (i < 0 ∨ (arrV _ _ _).slots.size ≤ _); rw [arrV_size]; exact Classical.byContradiction hout) (g := F0 m pc ls (.double x :: .int i :: .ref a :: rest)) rfl (rest := rest) rfl (by rw [hb]; exact hdg) t
  simp only [arrV_size] at h1
  exact h1 st
theorem vx_arraylengthN (hexec : p.tables.exec = Jvm.exec) (hb : c.code = cc) (hdg : decode cc pc = .ok (.arraylength, 1)) (k : vx_NoteN p l e R s m args below meth c H locs cells slots Q (F0 m pc ls rest)) : W p l e R s m args below meth c H locs cells slots Q (F0 m pc ls (.null :: rest)) := by
  intro T hT X
  obtain ⟨t, st, q⟩ := k T hT X
  exact ⟨t, X.arraylengthNull hexec (g := F0 m pc ls (.null :: rest)) rfl (rest := rest) rfl (by rw [hb]; exact hdg) t st, q⟩
theorem vx_ialoadN (hexec : p.tables.exec = Jvm.exec) (hb : c.code = cc) {i : Int32} (hdg : decode cc pc = .ok (.iaload, 1)) (k : vx_NoteN p l e R s m args below meth c H locs cells slots Q (F0 m pc ls rest)) : W p l e R s m args below meth c H locs cells slots Q (F0 m pc ls (.int i :: .null :: rest)) := by
  intro T hT X
  obtain ⟨t, st, q⟩ := k T hT X
  exact ⟨t, X.ialoadNull hexec (g := F0 m pc ls (.int i :: .null :: rest)) rfl (rest := rest) rfl (by rw [hb]; exact hdg) t st, q⟩
theorem vx_laloadN (hexec : p.tables.exec = Jvm.exec) (hb : c.code = cc) {i : Int32} (hdg : decode cc pc = .ok (.laload, 1)) (k : vx_NoteN p l e R s m args below meth c H locs cells slots Q (F0 m pc ls rest)) : W p l e R s m args below meth c H locs cells slots Q (F0 m pc ls (.int i :: .null :: rest)) := by
  intro T hT X
  obtain ⟨t, st, q⟩ := k T hT X
  exact ⟨t, X.laloadNull hexec (g := F0 m pc ls (.int i :: .null :: rest)) rfl (rest := rest) rfl (by rw [hb]; exact hdg) t st, q⟩
theorem vx_faloadN (hexec : p.tables.exec = Jvm.exec) (hb : c.code = cc) {i : Int32} (hdg : decode cc pc = .ok (.faload, 1)) (k : vx_NoteN p l e R s m args below meth c H locs cells slots Q (F0 m pc ls rest)) : W p l e R s m args below meth c H locs cells slots Q (F0 m pc ls (.int i :: .null :: rest)) := by
  intro T hT X
  obtain ⟨t, st, q⟩ := k T hT X
  exact ⟨t, X.faloadNull hexec (g := F0 m pc ls (.int i :: .null :: rest)) rfl (rest := rest) rfl (by rw [hb]; exact hdg) t st, q⟩
theorem vx_daloadN (hexec : p.tables.exec = Jvm.exec) (hb : c.code = cc) {i : Int32} (hdg : decode cc pc = .ok (.daload, 1)) (k : vx_NoteN p l e R s m args below meth c H locs cells slots Q (F0 m pc ls rest)) : W p l e R s m args below meth c H locs cells slots Q (F0 m pc ls (.int i :: .null :: rest)) := by
  intro T hT X
  obtain ⟨t, st, q⟩ := k T hT X
  exact ⟨t, X.daloadNull hexec (g := F0 m pc ls (.int i :: .null :: rest)) rfl (rest := rest) rfl (by rw [hb]; exact hdg) t st, q⟩
theorem vx_aaloadN (hexec : p.tables.exec = Jvm.exec) (hb : c.code = cc) {i : Int32} (hdg : decode cc pc = .ok (.aaload, 1)) (k : vx_NoteN p l e R s m args below meth c H locs cells slots Q (F0 m pc ls rest)) : W p l e R s m args below meth c H locs cells slots Q (F0 m pc ls (.int i :: .null :: rest)) := by
  intro T hT X
  obtain ⟨t, st, q⟩ := k T hT X
  exact ⟨t, X.aaloadNull hexec (g := F0 m pc ls (.int i :: .null :: rest)) rfl (rest := rest) rfl (by rw [hb]; exact hdg) t st, q⟩
theorem vx_baloadN (hexec : p.tables.exec = Jvm.exec) (hb : c.code = cc) {i : Int32} (hdg : decode cc pc = .ok (.baload, 1)) (k : vx_NoteN p l e R s m args below meth c H locs cells slots Q (F0 m pc ls rest)) : W p l e R s m args below meth c H locs cells slots Q (F0 m pc ls (.int i :: .null :: rest)) := by
  intro T hT X
  obtain ⟨t, st, q⟩ := k T hT X
  exact ⟨t, X.baloadNull hexec (g := F0 m pc ls (.int i :: .null :: rest)) rfl (rest := rest) rfl (by rw [hb]; exact hdg) t st, q⟩
theorem vx_caloadN (hexec : p.tables.exec = Jvm.exec) (hb : c.code = cc) {i : Int32} (hdg : decode cc pc = .ok (.caload, 1)) (k : vx_NoteN p l e R s m args below meth c H locs cells slots Q (F0 m pc ls rest)) : W p l e R s m args below meth c H locs cells slots Q (F0 m pc ls (.int i :: .null :: rest)) := by
  intro T hT X
  obtain ⟨t, st, q⟩ := k T hT X
  exact ⟨t, X.caloadNull hexec (g := F0 m pc ls (.int i :: .null :: rest)) rfl (rest := rest) rfl (by rw [hb]; exact hdg) t st, q⟩
theorem vx_saloadN (hexec : p.tables.exec = Jvm.exec) (hb : c.code = cc) {i : Int32} (hdg : decode cc pc = .ok (.saload, 1)) (k : vx_NoteN p l e R s m args below meth c H locs cells slots Q (F0 m pc ls rest)) : W p l e R s m args below meth c H locs cells slots Q (F0 m pc ls (.int i :: .null :: rest)) := by
  intro T hT X
  obtain ⟨t, st, q⟩ := k T hT X
  exact ⟨t, X.saloadNull hexec (g := F0 m pc ls (.int i :: .null :: rest)) rfl (rest := rest) rfl (by rw [hb]; exact hdg) t st, q⟩
theorem vx_iastoreN (hexec : p.tables.exec = Jvm.exec) (hb : c.code = cc) {x : Int32} {i : Int32} (hdg : decode cc pc = .ok (.iastore, 1)) (k : vx_NoteN p l e R s m args below meth c H locs cells slots Q (F0 m pc ls rest)) : W p l e R s m args below meth c H locs cells slots Q (F0 m pc ls (.int x :: .int i :: .null :: rest)) := by
  intro T hT X
  obtain ⟨t, st, q⟩ := k T hT X
  exact ⟨t, X.iastoreNull hexec (g := F0 m pc ls (.int x :: .int i :: .null :: rest)) rfl (rest := rest) rfl (by rw [hb]; exact hdg) t st, q⟩
theorem vx_lastoreN (hexec : p.tables.exec = Jvm.exec) (hb : c.code = cc) {x : Int64} {i : Int32} (hdg : decode cc pc = .ok (.lastore, 1)) (k : vx_NoteN p l e R s m args below meth c H locs cells slots Q (F0 m pc ls rest)) : W p l e R s m args below meth c H locs cells slots Q (F0 m pc ls (.long x :: .int i :: .null :: rest)) := by
  intro T hT X
  obtain ⟨t, st, q⟩ := k T hT X
  exact ⟨t, X.lastoreNull hexec (g := F0 m pc ls (.long x :: .int i :: .null :: rest)) rfl (rest := rest) rfl (by rw [hb]; exact hdg) t st, q⟩
theorem vx_fastoreN (hexec : p.tables.exec = Jvm.exec) (hb : c.code = cc) {x : UInt32} {i : Int32} (hdg : decode cc pc = .ok (.fastore, 1)) (k : vx_NoteN p l e R s m args below meth c H locs cells slots Q (F0 m pc ls rest)) : W p l e R s m args below meth c H locs cells slots Q (F0 m pc ls (.float x :: .int i :: .null :: rest)) := by
  intro T hT X
  obtain ⟨t, st, q⟩ := k T hT X
  exact ⟨t, X.fastoreNull hexec (g := F0 m pc ls (.float x :: .int i :: .null :: rest)) rfl (rest := rest) rfl (by rw [hb]; exact hdg) t st, q⟩
theorem vx_dastoreN (hexec : p.tables.exec = Jvm.exec) (hb : c.code = cc) {x : UInt64} {i : Int32} (hdg : decode cc pc = .ok (.dastore, 1)) (k : vx_NoteN p l e R s m args below meth c H locs cells slots Q (F0 m pc ls rest)) : W p l e R s m args below meth c H locs cells slots Q (F0 m pc ls (.double x :: .int i :: .null :: rest)) := by
  intro T hT X
  obtain ⟨t, st, q⟩ := k T hT X
  exact ⟨t, X.dastoreNull hexec (g := F0 m pc ls (.double x :: .int i :: .null :: rest)) rfl (rest := rest) rfl (by rw [hb]; exact hdg) t st, q⟩
theorem vx_bastoreN (hexec : p.tables.exec = Jvm.exec) (hb : c.code = cc) {x : Int32} {i : Int32} (hdg : decode cc pc = .ok (.bastore, 1)) (k : vx_NoteN p l e R s m args below meth c H locs cells slots Q (F0 m pc ls rest)) : W p l e R s m args below meth c H locs cells slots Q (F0 m pc ls (.int x :: .int i :: .null :: rest)) := by
  intro T hT X
  obtain ⟨t, st, q⟩ := k T hT X
  exact ⟨t, X.bastoreNull hexec (g := F0 m pc ls (.int x :: .int i :: .null :: rest)) rfl (rest := rest) rfl (by rw [hb]; exact hdg) t st, q⟩
theorem vx_castoreN (hexec : p.tables.exec = Jvm.exec) (hb : c.code = cc) {x : Int32} {i : Int32} (hdg : decode cc pc = .ok (.castore, 1)) (k : vx_NoteN p l e R s m args below meth c H locs cells slots Q (F0 m pc ls rest)) : W p l e R s m args below meth c H locs cells slots Q (F0 m pc ls (.int x :: .int i :: .null :: rest)) := by
  intro T hT X
  obtain ⟨t, st, q⟩ := k T hT X
  exact ⟨t, X.castoreNull hexec (g := F0 m pc ls (.int x :: .int i :: .null :: rest)) rfl (rest := rest) rfl (by rw [hb]; exact hdg) t st, q⟩
theorem vx_sastoreN (hexec : p.tables.exec = Jvm.exec) (hb : c.code = cc) {x : Int32} {i : Int32} (hdg : decode cc pc = .ok (.sastore, 1)) (k : vx_NoteN p l e R s m args below meth c H locs cells slots Q (F0 m pc ls rest)) : W p l e R s m args below meth c H locs cells slots Q (F0 m pc ls (.int x :: .int i :: .null :: rest)) := by
  intro T hT X
  obtain ⟨t, st, q⟩ := k T hT X
  exact ⟨t, X.sastoreNull hexec (g := F0 m pc ls (.int x :: .int i :: .null :: rest)) rfl (rest := rest) rfl (by rw [hb]; exact hdg) t st, q⟩
theorem vx_invokeN {own C : String} {index maxL : Nat} {y : MethodName} {bytes : ByteArray} {ret : Option FieldType} (hexec : p.tables.exec = Jvm.exec) (hb : c.code = cc) (hown : s.vm.findClass own = some m.cls) (hlink : (Cond.methodLink own index y).before args s = true) (hinst : (Cond.instanceMethod y).before args s = true) (hcode : (Cond.code y bytes maxL ret).before args s = true) (hsel : (Cond.selects C y y).before args s = true)
    (hx : y.cls ≠ "java/lang/invoke/MethodHandle" ∧ y.cls ≠ "java/lang/invoke/VarHandle") {As : List Value} (hlen : (parseMethodDescriptor y.desc).map (fun d => d.parameters.length) = some As.length) (hdg : decode cc pc = .ok (.invokevirtual index, 3))
    (k : vx_NoteN p l e R s m args below meth c H locs cells slots Q (F0 m pc ls rest)) {st0 : List Value} (hst : st0 = As.reverse ++ .null :: rest) : W p l e R s m args below meth c H locs cells slots Q (F0 m pc ls st0) := by
  intro T hT X
  obtain ⟨r0, r, hn, hrm, hstR, hsigR⟩ := va_Decl.of hinst hcode
  obtain ⟨c2, r2, m2, q1, q2, q3, q4, kP, hkP, hkPi⟩ := Cond.selects_spec hsel
  cases hn.symm.trans q3
  have hl9 : As.length = r.sig.parameters.length := by
    rw [hsigR] at hlen
    exact (Option.some.inj hlen).symm
  obtain ⟨vm', X1, st1⟩ := X.invokevirtualNull hexec hown hlink hn hrm hstR hkP hkPi hx (g := F0 m pc ls st0) rfl (argsL := As) (rest := rest) hl9 hst (by rw [hb]; exact hdg)
  obtain ⟨t, st, q⟩ := k (T.setVm vm') hT X1
  exact ⟨t, st1 t st, q⟩
theorem vx_newarrayZ {atype : ArrayType} (hexec : p.tables.exec = Jvm.exec) (hb : c.code = cc) {n : Int32} (h0 : n < 0) (hdg : decode cc pc = .ok (.newarray atype, 2)) (k : ∀ tx : String, tx = toString n → vx_Note p l e R s m args below meth c H locs cells slots Q (F0 m pc ls rest) "java/lang/NegativeArraySizeException" tx) : W p l e R s m args below meth c H locs cells slots Q (F0 m pc ls (.int n :: rest)) := by
  intro T hT X
  obtain ⟨t, st, q⟩ := k _ rfl T hT X
  exact ⟨t, X.newarrayNegative hexec (g := F0 m pc ls (.int n :: rest)) rfl h0 (rest := rest) rfl (by rw [hb]; exact hdg) t st, q⟩
end
end VXM
/-! ===== END ===== -/
end
section
/-! the printed names and fields -/
def RX0 : String := "MirageSurvey$Flat"
def TX0 : u_T := fun k => match k with
  | 0 => ("MirageSurvey$Flat", "stakes", "LMirageSurvey$Row;", true)
  | 1 => ("MirageSurvey$Flat", "posts", "LMirageSurvey$Row;", true)
  | 2 => ("MirageSurvey$Flat", "heights", "LMirageSurvey$Row;", true)
  | 3 => ("MirageSurvey$Flat", "drawn", "LMirageSurvey$Row;", true)
  | 4 => ("MirageSurvey$Flat", "camels", "LMirageSurvey$Row;", true)
  | 5 => ("MirageSurvey$Flat", "thirsts", "LMirageSurvey$Row;", true)
  | 6 => ("MirageSurvey$Flat", "ties", "LMirageSurvey$Row;", true)
  | 7 => ("MirageSurvey$Flat", "drunk", "LMirageSurvey$Row;", true)
  | 8 => ("MirageSurvey$Flat", "sheets", "I", false)
  | 9 => ("MirageSurvey$Flat", "hour", "I", false)
  | 10 => ("MirageSurvey$Flat", "dayHeat", "I", false)
  | 11 => ("MirageSurvey$Flat", "cups", "I", false)
  | _ => ("MirageSurvey$Flat", "sightings", "I", false)
def tyX0 : Nat → FieldType := fun k => match k with
  | 0 => .object "MirageSurvey$Row"
  | 1 => .object "MirageSurvey$Row"
  | 2 => .object "MirageSurvey$Row"
  | 3 => .object "MirageSurvey$Row"
  | 4 => .object "MirageSurvey$Row"
  | 5 => .object "MirageSurvey$Row"
  | 6 => .object "MirageSurvey$Row"
  | 7 => .object "MirageSurvey$Row"
  | 8 => .int
  | 9 => .int
  | 10 => .int
  | 11 => .int
  | _ => .int
abbrev wsX00 : List Cond := u_ws RX0 TX0 13
theorem nmX0 : ∀ a, a < 13 → ∀ b, b < 13 → a ≠ b → (TX0 a).2.1 ≠ (TX0 b).2.1 := by decide +kernel
theorem tyX0_ok : ∀ k, k < 13 → parseFieldDescriptor (TX0 k).2.2.1 = some (tyX0 k) := by decide +kernel
abbrev cX0_init : ByteArray := prog_2_method_1_code
def yX0_init : MethodName := ⟨RX0, "<init>", "()V"⟩
abbrev cX0_copyFrom : ByteArray := prog_2_method_2_code
def yX0_copyFrom : MethodName := ⟨RX0, "copyFrom", "(LMirageSurvey$Flat;)V"⟩
abbrev cX0_heatAt : ByteArray := prog_2_method_3_code
def yX0_heatAt : MethodName := ⟨RX0, "heatAt", "(I)I"⟩
abbrev cX0_heatNow : ByteArray := prog_2_method_4_code
def yX0_heatNow : MethodName := ⟨RX0, "heatNow", "()I"⟩
abbrev cX0_bellReach : ByteArray := prog_2_method_5_code
def yX0_bellReach : MethodName := ⟨RX0, "bellReach", "()I"⟩
abbrev cX0_farFrom : ByteArray := prog_2_method_6_code
def yX0_farFrom : MethodName := ⟨RX0, "farFrom", "(II)I"⟩
abbrev cX0_isTooHot : ByteArray := prog_2_method_7_code
def yX0_isTooHot : MethodName := ⟨RX0, "isTooHot", "(III)Z"⟩
abbrev cX0_isShimmering : ByteArray := prog_2_method_8_code
def yX0_isShimmering : MethodName := ⟨RX0, "isShimmering", "(III)Z"⟩
abbrev cX0_heatTooMuch : ByteArray := prog_2_method_9_code
def yX0_heatTooMuch : MethodName := ⟨RX0, "heatTooMuch", "(II)I"⟩
abbrev cX0_bending : ByteArray := prog_2_method_10_code
def yX0_bending : MethodName := ⟨RX0, "bending", "(II)I"⟩
abbrev cX0_bendingWay : ByteArray := prog_2_method_11_code
def yX0_bendingWay : MethodName := ⟨RX0, "bendingWay", "(II)I"⟩
abbrev cX0_seemingPlace : ByteArray := prog_2_method_12_code
def yX0_seemingPlace : MethodName := ⟨RX0, "seemingPlace", "(II)I"⟩
abbrev cX0_walkedPlace : ByteArray := prog_2_method_13_code
def yX0_walkedPlace : MethodName := ⟨RX0, "walkedPlace", "(II)I"⟩
abbrev cX0_clearestPost : ByteArray := prog_2_method_14_code
def yX0_clearestPost : MethodName := ⟨RX0, "clearestPost", "(I)I"⟩
abbrev cX0_isBetterPost : ByteArray := prog_2_method_15_code
def yX0_isBetterPost : MethodName := ⟨RX0, "isBetterPost", "(III)Z"⟩
abbrev cX0_hoursUntilClear : ByteArray := prog_2_method_16_code
def yX0_hoursUntilClear : MethodName := ⟨RX0, "hoursUntilClear", "(II)I"⟩
abbrev cX0_hasSheet : ByteArray := prog_2_method_17_code
def yX0_hasSheet : MethodName := ⟨RX0, "hasSheet", "(I)Z"⟩
abbrev cX0_drawnPlace : ByteArray := prog_2_method_18_code
def yX0_drawnPlace : MethodName := ⟨RX0, "drawnPlace", "(II)I"⟩
abbrev cX0_draw : ByteArray := prog_2_method_19_code
def yX0_draw : MethodName := ⟨RX0, "draw", "(III)V"⟩
abbrev cX0_countDrawn : ByteArray := prog_2_method_20_code
def yX0_countDrawn : MethodName := ⟨RX0, "countDrawn", "(Z)I"⟩
abbrev cX0_isLost : ByteArray := prog_2_method_21_code
def yX0_isLost : MethodName := ⟨RX0, "isLost", "(I)Z"⟩
abbrev cX0_isRoaming : ByteArray := prog_2_method_22_code
def yX0_isRoaming : MethodName := ⟨RX0, "isRoaming", "(I)Z"⟩
abbrev cX0_countLost : ByteArray := prog_2_method_23_code
def yX0_countLost : MethodName := ⟨RX0, "countLost", "()I"⟩
abbrev cX0_callCamel : ByteArray := prog_2_method_24_code
def yX0_callCamel : MethodName := ⟨RX0, "callCamel", "(II)V"⟩
abbrev cX0_farToPost : ByteArray := prog_2_method_25_code
def yX0_farToPost : MethodName := ⟨RX0, "farToPost", "(I)I"⟩
abbrev cX0_nearestCamel : ByteArray := prog_2_method_26_code
def yX0_nearestCamel : MethodName := ⟨RX0, "nearestCamel", "(I)I"⟩
abbrev cX0_isNearer : ByteArray := prog_2_method_27_code
def yX0_isNearer : MethodName := ⟨RX0, "isNearer", "(III)Z"⟩
abbrev cX0_thirstAfter : ByteArray := prog_2_method_28_code
def yX0_thirstAfter : MethodName := ⟨RX0, "thirstAfter", "(II)I"⟩
abbrev cX0_hoursUntilLost : ByteArray := prog_2_method_29_code
def yX0_hoursUntilLost : MethodName := ⟨RX0, "hoursUntilLost", "(I)I"⟩
abbrev cX0_passHour : ByteArray := prog_2_method_30_code
def yX0_passHour : MethodName := ⟨RX0, "passHour", "()V"⟩
abbrev cX0_stray : ByteArray := prog_2_method_31_code
def yX0_stray : MethodName := ⟨RX0, "stray", "(I)V"⟩
def RX1 : String := "MirageSurvey$History"
def TX1 : u_T := fun k => match k with
  | 0 => ("MirageSurvey$History", "kept", "[LMirageSurvey$Flat;", true)
  | 1 => ("MirageSurvey$History", "size", "I", false)
  | _ => ("MirageSurvey$History", "next", "I", false)
def tyX1 : Nat → FieldType := fun k => match k with
  | 0 => .array (.object "MirageSurvey$Flat")
  | 1 => .int
  | _ => .int
abbrev wsX10 : List Cond := u_ws RX1 TX1 3
theorem nmX1 : ∀ a, a < 3 → ∀ b, b < 3 → a ≠ b → (TX1 a).2.1 ≠ (TX1 b).2.1 := by decide +kernel
theorem tyX1_ok : ∀ k, k < 3 → parseFieldDescriptor (TX1 k).2.2.1 = some (tyX1 k) := by decide +kernel
abbrev cX1_init : ByteArray := prog_3_method_1_code
def yX1_init : MethodName := ⟨RX1, "<init>", "()V"⟩
abbrev cX1_size : ByteArray := prog_3_method_2_code
def yX1_size : MethodName := ⟨RX1, "size", "()I"⟩
abbrev cX1_slot : ByteArray := prog_3_method_3_code
def yX1_slot : MethodName := ⟨RX1, "slot", "(I)LMirageSurvey$Flat;"⟩
abbrev cX1_keep : ByteArray := prog_3_method_4_code
def yX1_keep : MethodName := ⟨RX1, "keep", "(LMirageSurvey$Flat;)V"⟩
abbrev cX1_takeBack : ByteArray := prog_3_method_5_code
def yX1_takeBack : MethodName := ⟨RX1, "takeBack", "(LMirageSurvey$Flat;)V"⟩
abbrev cX1_forget : ByteArray := prog_3_method_6_code
def yX1_forget : MethodName := ⟨RX1, "forget", "()V"⟩
def RX2 : String := "MirageSurvey$Line"
def TX2 : u_T := fun k => match k with
  | 0 => ("MirageSurvey$Line", "signs", "[C", true)
  | _ => ("MirageSurvey$Line", "length", "I", false)
def tyX2 : Nat → FieldType := fun k => match k with
  | 0 => .array .char
  | _ => .int
abbrev wsX20 : List Cond := u_ws RX2 TX2 2
theorem nmX2 : ∀ a, a < 2 → ∀ b, b < 2 → a ≠ b → (TX2 a).2.1 ≠ (TX2 b).2.1 := by decide +kernel
theorem tyX2_ok : ∀ k, k < 2 → parseFieldDescriptor (TX2 k).2.2.1 = some (tyX2 k) := by decide +kernel
abbrev cX2_init : ByteArray := prog_4_method_1_code
def yX2_init : MethodName := ⟨RX2, "<init>", "()V"⟩
abbrev cX2_length : ByteArray := prog_4_method_2_code
def yX2_length : MethodName := ⟨RX2, "length", "()I"⟩
abbrev cX2_signAt : ByteArray := prog_4_method_3_code
def yX2_signAt : MethodName := ⟨RX2, "signAt", "(I)C"⟩
abbrev cX2_clear : ByteArray := prog_4_method_4_code
def yX2_clear : MethodName := ⟨RX2, "clear", "()V"⟩
abbrev cX2_putStake : ByteArray := prog_4_method_5_code
def yX2_putStake : MethodName := ⟨RX2, "putStake", "(III)V"⟩
abbrev cX2_putWord : ByteArray := prog_4_method_6_code
def yX2_putWord : MethodName := ⟨RX2, "putWord", "(Ljava/lang/String;)V"⟩
abbrev cX2_putNumber : ByteArray := prog_4_method_7_code
def yX2_putNumber : MethodName := ⟨RX2, "putNumber", "(I)V"⟩
abbrev cX2_put : ByteArray := prog_4_method_8_code
def yX2_put : MethodName := ⟨RX2, "put", "(C)V"⟩
def RX3 : String := "MirageSurvey$Row"
def TX3 : u_T := fun k => match k with
  | 0 => ("MirageSurvey$Row", "items", "[I", true)
  | _ => ("MirageSurvey$Row", "size", "I", false)
def tyX3 : Nat → FieldType := fun k => match k with
  | 0 => .array .int
  | _ => .int
abbrev wsX30 : List Cond := u_ws RX3 TX3 2
theorem nmX3 : ∀ a, a < 2 → ∀ b, b < 2 → a ≠ b → (TX3 a).2.1 ≠ (TX3 b).2.1 := by decide +kernel
theorem tyX3_ok : ∀ k, k < 2 → parseFieldDescriptor (TX3 k).2.2.1 = some (tyX3 k) := by decide +kernel
abbrev cX3_init : ByteArray := prog_5_method_1_code
def yX3_init : MethodName := ⟨RX3, "<init>", "(I)V"⟩
abbrev cX3_size : ByteArray := prog_5_method_2_code
def yX3_size : MethodName := ⟨RX3, "size", "()I"⟩
abbrev cX3_isFull : ByteArray := prog_5_method_3_code
def yX3_isFull : MethodName := ⟨RX3, "isFull", "()Z"⟩
abbrev cX3_has : ByteArray := prog_5_method_4_code
def yX3_has : MethodName := ⟨RX3, "has", "(I)Z"⟩
abbrev cX3_get : ByteArray := prog_5_method_5_code
def yX3_get : MethodName := ⟨RX3, "get", "(I)I"⟩
abbrev cX3_set : ByteArray := prog_5_method_6_code
def yX3_set : MethodName := ⟨RX3, "set", "(II)V"⟩
abbrev cX3_add : ByteArray := prog_5_method_7_code
def yX3_add : MethodName := ⟨RX3, "add", "(I)I"⟩
abbrev cX3_clear : ByteArray := prog_5_method_8_code
def yX3_clear : MethodName := ⟨RX3, "clear", "()V"⟩
abbrev cX3_find : ByteArray := prog_5_method_9_code
def yX3_find : MethodName := ⟨RX3, "find", "(I)I"⟩
abbrev cX3_sum : ByteArray := prog_5_method_10_code
def yX3_sum : MethodName := ⟨RX3, "sum", "()I"⟩
abbrev cX3_copyFrom : ByteArray := prog_5_method_11_code
def yX3_copyFrom : MethodName := ⟨RX3, "copyFrom", "(LMirageSurvey$Row;)V"⟩
def RX4 : String := "MirageSurvey$Text"
def TX4 : u_T := fun k => match k with
  | 0 => ("MirageSurvey$Text", "numbers", "LMirageSurvey$Row;", true)
  | 1 => ("MirageSurvey$Text", "signs", "[C", true)
  | 2 => ("MirageSurvey$Text", "length", "I", false)
  | 3 => ("MirageSurvey$Text", "position", "I", false)
  | _ => ("MirageSurvey$Text", "kind", "C", false)
def tyX4 : Nat → FieldType := fun k => match k with
  | 0 => .object "MirageSurvey$Row"
  | 1 => .array .char
  | 2 => .int
  | 3 => .int
  | _ => .char
abbrev wsX40 : List Cond := u_ws RX4 TX4 5
theorem nmX4 : ∀ a, a < 5 → ∀ b, b < 5 → a ≠ b → (TX4 a).2.1 ≠ (TX4 b).2.1 := by decide +kernel
theorem tyX4_ok : ∀ k, k < 5 → parseFieldDescriptor (TX4 k).2.2.1 = some (tyX4 k) := by decide +kernel
abbrev cX4_init : ByteArray := prog_6_method_1_code
def yX4_init : MethodName := ⟨RX4, "<init>", "()V"⟩
abbrev cX4_length : ByteArray := prog_6_method_2_code
def yX4_length : MethodName := ⟨RX4, "length", "()I"⟩
abbrev cX4_position : ByteArray := prog_6_method_3_code
def yX4_position : MethodName := ⟨RX4, "position", "()I"⟩
abbrev cX4_kind : ByteArray := prog_6_method_4_code
def yX4_kind : MethodName := ⟨RX4, "kind", "()C"⟩
abbrev cX4_isFull : ByteArray := prog_6_method_5_code
def yX4_isFull : MethodName := ⟨RX4, "isFull", "()Z"⟩
abbrev cX4_put : ByteArray := prog_6_method_6_code
def yX4_put : MethodName := ⟨RX4, "put", "(C)I"⟩
abbrev cX4_clear : ByteArray := prog_6_method_7_code
def yX4_clear : MethodName := ⟨RX4, "clear", "()V"⟩
abbrev cX4_rewind : ByteArray := prog_6_method_8_code
def yX4_rewind : MethodName := ⟨RX4, "rewind", "()V"⟩
abbrev cX4_countCommands : ByteArray := prog_6_method_9_code
def yX4_countCommands : MethodName := ⟨RX4, "countCommands", "()I"⟩
abbrev cX4_readCommand : ByteArray := prog_6_method_10_code
def yX4_readCommand : MethodName := ⟨RX4, "readCommand", "()Z"⟩
abbrev cX4_formOf : ByteArray := prog_6_method_11_code
def yX4_formOf : MethodName := ⟨RX4, "formOf", "(C)Ljava/lang/String;"⟩
abbrev cX4_readPart : ByteArray := prog_6_method_12_code
def yX4_readPart : MethodName := ⟨RX4, "readPart", "(C)Z"⟩
abbrev cX4_readSign : ByteArray := prog_6_method_13_code
def yX4_readSign : MethodName := ⟨RX4, "readSign", "(C)Z"⟩
abbrev cX4_readNumber : ByteArray := prog_6_method_14_code
def yX4_readNumber : MethodName := ⟨RX4, "readNumber", "(Z)Z"⟩
abbrev cX4_readDigit : ByteArray := prog_6_method_15_code
def yX4_readDigit : MethodName := ⟨RX4, "readDigit", "()I"⟩
abbrev cX4_signHere : ByteArray := prog_6_method_16_code
def yX4_signHere : MethodName := ⟨RX4, "signHere", "()C"⟩
def RX5 : String := "MirageSurvey"
def TX5 : u_T := fun k => match k with
  | 0 => ("MirageSurvey", "flat", "LMirageSurvey$Flat;", true)
  | 1 => ("MirageSurvey", "before", "LMirageSurvey$Flat;", true)
  | 2 => ("MirageSurvey", "saved", "LMirageSurvey$Flat;", true)
  | 3 => ("MirageSurvey", "history", "LMirageSurvey$History;", true)
  | 4 => ("MirageSurvey", "text", "LMirageSurvey$Text;", true)
  | 5 => ("MirageSurvey", "written", "LMirageSurvey$Line;", true)
  | 6 => ("MirageSurvey", "isSaved", "Z", false)
  | 7 => ("MirageSurvey", "faultAt", "I", false)
  | 8 => ("MirageSurvey", "commandIndex", "I", false)
  | 9 => ("MirageSurvey", "reasonKind", "I", false)
  | 10 => ("MirageSurvey", "reasonDetail", "I", false)
  | _ => ("MirageSurvey", "reasonCommand", "I", false)
def tyX5 : Nat → FieldType := fun k => match k with
  | 0 => .object "MirageSurvey$Flat"
  | 1 => .object "MirageSurvey$Flat"
  | 2 => .object "MirageSurvey$Flat"
  | 3 => .object "MirageSurvey$History"
  | 4 => .object "MirageSurvey$Text"
  | 5 => .object "MirageSurvey$Line"
  | 6 => .boolean
  | 7 => .int
  | 8 => .int
  | 9 => .int
  | 10 => .int
  | _ => .int
abbrev wsX50 : List Cond := u_ws RX5 TX5 12
theorem nmX5 : ∀ a, a < 12 → ∀ b, b < 12 → a ≠ b → (TX5 a).2.1 ≠ (TX5 b).2.1 := by decide +kernel
theorem tyX5_ok : ∀ k, k < 12 → parseFieldDescriptor (TX5 k).2.2.1 = some (tyX5 k) := by decide +kernel
abbrev cX5_init : ByteArray := prog_1_method_1_code
def yX5_init : MethodName := ⟨RX5, "<init>", "()V"⟩
abbrev cX5_stake : ByteArray := prog_1_method_2_code
def yX5_stake : MethodName := ⟨RX5, "stake", "(I)I"⟩
abbrev cX5_post : ByteArray := prog_1_method_3_code
def yX5_post : MethodName := ⟨RX5, "post", "(II)I"⟩
abbrev cX5_sheet : ByteArray := prog_1_method_4_code
def yX5_sheet : MethodName := ⟨RX5, "sheet", "()I"⟩
abbrev cX5_heat : ByteArray := prog_1_method_5_code
def yX5_heat : MethodName := ⟨RX5, "heat", "(I)I"⟩
abbrev cX5_sight : ByteArray := prog_1_method_6_code
def yX5_sight : MethodName := ⟨RX5, "sight", "(III)I"⟩
abbrev cX5_erase : ByteArray := prog_1_method_7_code
def yX5_erase : MethodName := ⟨RX5, "erase", "(II)I"⟩
abbrev cX5_camel : ByteArray := prog_1_method_8_code
def yX5_camel : MethodName := ⟨RX5, "camel", "(I)I"⟩
abbrev cX5_bell : ByteArray := prog_1_method_9_code
def yX5_bell : MethodName := ⟨RX5, "bell", "(I)I"⟩
abbrev cX5_tie : ByteArray := prog_1_method_10_code
def yX5_tie : MethodName := ⟨RX5, "tie", "(I)I"⟩
abbrev cX5_loose : ByteArray := prog_1_method_11_code
def yX5_loose : MethodName := ⟨RX5, "loose", "(I)I"⟩
abbrev cX5_drink : ByteArray := prog_1_method_12_code
def yX5_drink : MethodName := ⟨RX5, "drink", "(I)I"⟩
abbrev cX5_water : ByteArray := prog_1_method_13_code
def yX5_water : MethodName := ⟨RX5, "water", "(I)I"⟩
abbrev cX5_hours : ByteArray := prog_1_method_14_code
def yX5_hours : MethodName := ⟨RX5, "hours", "(I)I"⟩
abbrev cX5_stakeAt : ByteArray := prog_1_method_15_code
def yX5_stakeAt : MethodName := ⟨RX5, "stakeAt", "(I)I"⟩
abbrev cX5_postOf : ByteArray := prog_1_method_16_code
def yX5_postOf : MethodName := ⟨RX5, "postOf", "(IZ)I"⟩
abbrev cX5_camelOf : ByteArray := prog_1_method_17_code
def yX5_camelOf : MethodName := ⟨RX5, "camelOf", "(II)I"⟩
abbrev cX5_drawnAt : ByteArray := prog_1_method_18_code
def yX5_drawnAt : MethodName := ⟨RX5, "drawnAt", "(II)I"⟩
abbrev cX5_wrongBy : ByteArray := prog_1_method_19_code
def yX5_wrongBy : MethodName := ⟨RX5, "wrongBy", "(I)I"⟩
abbrev cX5_seems : ByteArray := prog_1_method_20_code
def yX5_seems : MethodName := ⟨RX5, "seems", "(II)I"⟩
abbrev cX5_seemsAgain : ByteArray := prog_1_method_21_code
def yX5_seemsAgain : MethodName := ⟨RX5, "seemsAgain", "(II)I"⟩
abbrev cX5_shimmers : ByteArray := prog_1_method_22_code
def yX5_shimmers : MethodName := ⟨RX5, "shimmers", "(II)Z"⟩
abbrev cX5_bestPost : ByteArray := prog_1_method_23_code
def yX5_bestPost : MethodName := ⟨RX5, "bestPost", "(I)I"⟩
abbrev cX5_clearIn : ByteArray := prog_1_method_24_code
def yX5_clearIn : MethodName := ⟨RX5, "clearIn", "(II)I"⟩
abbrev cX5_heatIn : ByteArray := prog_1_method_25_code
def yX5_heatIn : MethodName := ⟨RX5, "heatIn", "(I)I"⟩
abbrev cX5_lostIn : ByteArray := prog_1_method_26_code
def yX5_lostIn : MethodName := ⟨RX5, "lostIn", "(I)I"⟩
abbrev cX5_nearest : ByteArray := prog_1_method_27_code
def yX5_nearest : MethodName := ⟨RX5, "nearest", "(I)I"⟩
abbrev cX5_append : ByteArray := prog_1_method_28_code
def yX5_append : MethodName := ⟨RX5, "append", "(C)I"⟩
abbrev cX5_commands : ByteArray := prog_1_method_29_code
def yX5_commands : MethodName := ⟨RX5, "commands", "()I"⟩
abbrev cX5_faultPosition : ByteArray := prog_1_method_30_code
def yX5_faultPosition : MethodName := ⟨RX5, "faultPosition", "()I"⟩
abbrev cX5_reason : ByteArray := prog_1_method_31_code
def yX5_reason : MethodName := ⟨RX5, "reason", "(I)I"⟩
abbrev cX5_line : ByteArray := prog_1_method_32_code
def yX5_line : MethodName := ⟨RX5, "line", "(I)I"⟩
abbrev cX5_character : ByteArray := prog_1_method_33_code
def yX5_character : MethodName := ⟨RX5, "character", "(I)C"⟩
abbrev cX5_meanThirst : ByteArray := prog_1_method_34_code
def yX5_meanThirst : MethodName := ⟨RX5, "meanThirst", "()F"⟩
abbrev cX5_rightShare : ByteArray := prog_1_method_35_code
def yX5_rightShare : MethodName := ⟨RX5, "rightShare", "()D"⟩
abbrev cX5_account : ByteArray := prog_1_method_36_code
def yX5_account : MethodName := ⟨RX5, "account", "(I)I"⟩
abbrev cX5_undo : ByteArray := prog_1_method_37_code
def yX5_undo : MethodName := ⟨RX5, "undo", "()I"⟩
abbrev cX5_save : ByteArray := prog_1_method_38_code
def yX5_save : MethodName := ⟨RX5, "save", "()I"⟩
abbrev cX5_restore : ByteArray := prog_1_method_39_code
def yX5_restore : MethodName := ⟨RX5, "restore", "()I"⟩
abbrev cX5_begin : ByteArray := prog_1_method_40_code
def yX5_begin : MethodName := ⟨RX5, "begin", "()V"⟩
abbrev cX5_refuse : ByteArray := prog_1_method_41_code
def yX5_refuse : MethodName := ⟨RX5, "refuse", "(II)I"⟩
abbrev cX5_settle : ByteArray := prog_1_method_42_code
def yX5_settle : MethodName := ⟨RX5, "settle", "(I)I"⟩
abbrev cX5_carryOut : ByteArray := prog_1_method_43_code
def yX5_carryOut : MethodName := ⟨RX5, "carryOut", "(CLMirageSurvey$Row;)I"⟩
abbrev cX5_driveStake : ByteArray := prog_1_method_44_code
def yX5_driveStake : MethodName := ⟨RX5, "driveStake", "(I)I"⟩
abbrev cX5_setUpPost : ByteArray := prog_1_method_45_code
def yX5_setUpPost : MethodName := ⟨RX5, "setUpPost", "(II)I"⟩
abbrev cX5_addSheet : ByteArray := prog_1_method_46_code
def yX5_addSheet : MethodName := ⟨RX5, "addSheet", "()I"⟩
abbrev cX5_setDayHeat : ByteArray := prog_1_method_47_code
def yX5_setDayHeat : MethodName := ⟨RX5, "setDayHeat", "(I)I"⟩
abbrev cX5_drawSighted : ByteArray := prog_1_method_48_code
def yX5_drawSighted : MethodName := ⟨RX5, "drawSighted", "(III)I"⟩
abbrev cX5_eraseDrawn : ByteArray := prog_1_method_49_code
def yX5_eraseDrawn : MethodName := ⟨RX5, "eraseDrawn", "(II)I"⟩
abbrev cX5_bringCamel : ByteArray := prog_1_method_50_code
def yX5_bringCamel : MethodName := ⟨RX5, "bringCamel", "(I)I"⟩
abbrev cX5_ringBell : ByteArray := prog_1_method_51_code
def yX5_ringBell : MethodName := ⟨RX5, "ringBell", "(I)I"⟩
abbrev cX5_tieCamel : ByteArray := prog_1_method_52_code
def yX5_tieCamel : MethodName := ⟨RX5, "tieCamel", "(I)I"⟩
abbrev cX5_loosenCamel : ByteArray := prog_1_method_53_code
def yX5_loosenCamel : MethodName := ⟨RX5, "loosenCamel", "(I)I"⟩
abbrev cX5_waterCamel : ByteArray := prog_1_method_54_code
def yX5_waterCamel : MethodName := ⟨RX5, "waterCamel", "(I)I"⟩
abbrev cX5_bringWater : ByteArray := prog_1_method_55_code
def yX5_bringWater : MethodName := ⟨RX5, "bringWater", "(I)I"⟩
abbrev cX5_passHours : ByteArray := prog_1_method_56_code
def yX5_passHours : MethodName := ⟨RX5, "passHours", "(I)I"⟩
abbrev cX5_isPlace : ByteArray := prog_1_method_57_code
def yX5_isPlace : MethodName := ⟨RX5, "isPlace", "(I)Z"⟩
abbrev cX5_nearestPlace : ByteArray := prog_1_method_58_code
def yX5_nearestPlace : MethodName := ⟨RX5, "nearestPlace", "(I)I"⟩
abbrev cX5_wayTo : ByteArray := prog_1_method_59_code
def yX5_wayTo : MethodName := ⟨RX5, "wayTo", "(II)I"⟩
abbrev cX5_needStake : ByteArray := prog_1_method_60_code
def yX5_needStake : MethodName := ⟨RX5, "needStake", "(I)V"⟩
abbrev cX5_needPost : ByteArray := prog_1_method_61_code
def yX5_needPost : MethodName := ⟨RX5, "needPost", "(I)V"⟩
abbrev cX5_needSheet : ByteArray := prog_1_method_62_code
def yX5_needSheet : MethodName := ⟨RX5, "needSheet", "(I)V"⟩
abbrev cX5_needCamel : ByteArray := prog_1_method_63_code
def yX5_needCamel : MethodName := ⟨RX5, "needCamel", "(I)V"⟩
def RX6 : String := "MirageSurveyModel"
def TX6 : u_T := fun k => match k with
  | _ => ("", "", "", false)
def tyX6 : Nat → FieldType := fun k => match k with
  | _ => .int
abbrev wsX60 : List Cond := u_ws RX6 TX6 0
theorem nmX6 : ∀ a, a < 0 → ∀ b, b < 0 → a ≠ b → (TX6 a).2.1 ≠ (TX6 b).2.1 := by decide +kernel
theorem tyX6_ok : ∀ k, k < 0 → parseFieldDescriptor (TX6 k).2.2.1 = some (tyX6 k) := by decide +kernel
def RJx145de : String := "java/io/Serializable"
def TJx145de : u_T := fun k => match k with
  | _ => ("", "", "", false)
def tyJx145de : Nat → FieldType := fun k => match k with
  | _ => .int
abbrev wsJx145de0 : List Cond := u_ws RJx145de TJx145de 0
theorem nmJx145de : ∀ a, a < 0 → ∀ b, b < 0 → a ≠ b → (TJx145de a).2.1 ≠ (TJx145de b).2.1 := by decide +kernel
theorem tyJx145de_ok : ∀ k, k < 0 → parseFieldDescriptor (TJx145de k).2.2.1 = some (tyJx145de k) := by decide +kernel
def RJ5 : String := "java/lang/AbstractStringBuilder"
def TJ5 : u_T := fun k => match k with
  | _ => ("", "", "", false)
def tyJ5 : Nat → FieldType := fun k => match k with
  | _ => .int
abbrev wsJ50 : List Cond := u_ws RJ5 TJ5 0
theorem nmJ5 : ∀ a, a < 0 → ∀ b, b < 0 → a ≠ b → (TJ5 a).2.1 ≠ (TJ5 b).2.1 := by decide +kernel
theorem tyJ5_ok : ∀ k, k < 0 → parseFieldDescriptor (TJ5 k).2.2.1 = some (tyJ5 k) := by decide +kernel
abbrev cJ5_init_d00df : ByteArray := prog_10_method_2_code
def yJ5_init_d00df : MethodName := ⟨RJ5, "<init>", "(I)V"⟩
abbrev cJ5_length_8abf5 : ByteArray := prog_10_method_6_code
def yJ5_length_8abf5 : MethodName := ⟨RJ5, "length", "()I"⟩
abbrev cJ5_ensureCapacityInternal_d00df : ByteArray := prog_10_method_9_code
def yJ5_ensureCapacityInternal_d00df : MethodName := ⟨RJ5, "ensureCapacityInternal", "(I)V"⟩
abbrev cJ5_newCapacity_0f7a4 : ByteArray := prog_10_method_10_code
def yJ5_newCapacity_0f7a4 : MethodName := ⟨RJ5, "newCapacity", "(I)I"⟩
abbrev cJ5_inflate_da8c8 : ByteArray := prog_10_method_11_code
def yJ5_inflate_da8c8 : MethodName := ⟨RJ5, "inflate", "()V"⟩
abbrev cJ5_append_cf1ce : ByteArray := prog_10_method_22_code
def yJ5_append_cf1ce : MethodName := ⟨RJ5, "append", "(Ljava/lang/String;)Ljava/lang/AbstractStringBuilder;"⟩
abbrev cJ5_appendNull_278bc : ByteArray := prog_10_method_26_code
def yJ5_appendNull_278bc : MethodName := ⟨RJ5, "appendNull", "()Ljava/lang/AbstractStringBuilder;"⟩
abbrev cJ5_append_c97b9 : ByteArray := prog_10_method_32_code
def yJ5_append_c97b9 : MethodName := ⟨RJ5, "append", "(I)Ljava/lang/AbstractStringBuilder;"⟩
abbrev cJ5_getValue_6d5f1 : ByteArray := prog_10_method_64_code
def yJ5_getValue_6d5f1 : MethodName := ⟨RJ5, "getValue", "()[B"⟩
abbrev cJ5_isLatin1_aae02 : ByteArray := prog_10_method_68_code
def yJ5_isLatin1_aae02 : MethodName := ⟨RJ5, "isLatin1", "()Z"⟩
abbrev cJ5_inflateIfNeededFor_a7421 : ByteArray := prog_10_method_71_code
def yJ5_inflateIfNeededFor_a7421 : MethodName := ⟨RJ5, "inflateIfNeededFor", "(Ljava/lang/String;)V"⟩
abbrev cJ5_putStringAt_47b60 : ByteArray := prog_10_method_73_code
def yJ5_putStringAt_47b60 : MethodName := ⟨RJ5, "putStringAt", "(ILjava/lang/String;)V"⟩
def RJx2cfe8 : String := "java/lang/Appendable"
def TJx2cfe8 : u_T := fun k => match k with
  | _ => ("", "", "", false)
def tyJx2cfe8 : Nat → FieldType := fun k => match k with
  | _ => .int
abbrev wsJx2cfe80 : List Cond := u_ws RJx2cfe8 TJx2cfe8 0
theorem nmJx2cfe8 : ∀ a, a < 0 → ∀ b, b < 0 → a ≠ b → (TJx2cfe8 a).2.1 ≠ (TJx2cfe8 b).2.1 := by decide +kernel
theorem tyJx2cfe8_ok : ∀ k, k < 0 → parseFieldDescriptor (TJx2cfe8 k).2.2.1 = some (tyJx2cfe8 k) := by decide +kernel
def RJx00060 : String := "java/lang/ArrayIndexOutOfBoundsException"
def TJx00060 : u_T := fun k => match k with
  | 0 => ("java/lang/Throwable", "backtrace", "Ljava/lang/Object;", false)
  | 1 => ("java/lang/Throwable", "detailMessage", "Ljava/lang/String;", false)
  | 2 => ("java/lang/Throwable", "cause", "Ljava/lang/Throwable;", false)
  | 3 => ("java/lang/Throwable", "stackTrace", "[Ljava/lang/StackTraceElement;", false)
  | 4 => ("java/lang/Throwable", "depth", "I", false)
  | _ => ("java/lang/Throwable", "suppressedExceptions", "Ljava/util/List;", false)
def tyJx00060 : Nat → FieldType := fun k => match k with
  | 0 => .object "java/lang/Object"
  | 1 => .object "java/lang/String"
  | 2 => .object "java/lang/Throwable"
  | 3 => .array (.object "java/lang/StackTraceElement")
  | 4 => .int
  | _ => .object "java/util/List"
abbrev wsJx000600 : List Cond := u_ws RJx00060 TJx00060 6
theorem nmJx00060 : ∀ a, a < 6 → ∀ b, b < 6 → a ≠ b → (TJx00060 a).2.1 ≠ (TJx00060 b).2.1 := by decide +kernel
theorem tyJx00060_ok : ∀ k, k < 6 → parseFieldDescriptor (TJx00060 k).2.2.1 = some (tyJx00060 k) := by decide +kernel
abbrev cJx00060_init_a7421 : ByteArray := prog_13_method_2_code
def yJx00060_init_a7421 : MethodName := ⟨RJx00060, "<init>", "(Ljava/lang/String;)V"⟩
def RJx9f9b0 : String := "java/lang/CharSequence"
def TJx9f9b0 : u_T := fun k => match k with
  | _ => ("", "", "", false)
def tyJx9f9b0 : Nat → FieldType := fun k => match k with
  | _ => .int
abbrev wsJx9f9b00 : List Cond := u_ws RJx9f9b0 TJx9f9b0 0
theorem nmJx9f9b0 : ∀ a, a < 0 → ∀ b, b < 0 → a ≠ b → (TJx9f9b0 a).2.1 ≠ (TJx9f9b0 b).2.1 := by decide +kernel
theorem tyJx9f9b0_ok : ∀ k, k < 0 → parseFieldDescriptor (TJx9f9b0 k).2.2.1 = some (tyJx9f9b0 k) := by decide +kernel
def RJx8e188 : String := "java/lang/Cloneable"
def TJx8e188 : u_T := fun k => match k with
  | _ => ("", "", "", false)
def tyJx8e188 : Nat → FieldType := fun k => match k with
  | _ => .int
abbrev wsJx8e1880 : List Cond := u_ws RJx8e188 TJx8e188 0
theorem nmJx8e188 : ∀ a, a < 0 → ∀ b, b < 0 → a ≠ b → (TJx8e188 a).2.1 ≠ (TJx8e188 b).2.1 := by decide +kernel
theorem tyJx8e188_ok : ∀ k, k < 0 → parseFieldDescriptor (TJx8e188 k).2.2.1 = some (tyJx8e188 k) := by decide +kernel
def RJxb160c : String := "java/lang/Comparable"
def TJxb160c : u_T := fun k => match k with
  | _ => ("", "", "", false)
def tyJxb160c : Nat → FieldType := fun k => match k with
  | _ => .int
abbrev wsJxb160c0 : List Cond := u_ws RJxb160c TJxb160c 0
theorem nmJxb160c : ∀ a, a < 0 → ∀ b, b < 0 → a ≠ b → (TJxb160c a).2.1 ≠ (TJxb160c b).2.1 := by decide +kernel
theorem tyJxb160c_ok : ∀ k, k < 0 → parseFieldDescriptor (TJxb160c k).2.2.1 = some (tyJxb160c k) := by decide +kernel
def RJxe99ae : String := "java/lang/Double"
def TJxe99ae : u_T := fun k => match k with
  | _ => ("", "", "", false)
def tyJxe99ae : Nat → FieldType := fun k => match k with
  | _ => .int
abbrev wsJxe99ae0 : List Cond := u_ws RJxe99ae TJxe99ae 0
theorem nmJxe99ae : ∀ a, a < 0 → ∀ b, b < 0 → a ≠ b → (TJxe99ae a).2.1 ≠ (TJxe99ae b).2.1 := by decide +kernel
theorem tyJxe99ae_ok : ∀ k, k < 0 → parseFieldDescriptor (TJxe99ae k).2.2.1 = some (tyJxe99ae k) := by decide +kernel
abbrev cJxe99ae_isNaN_b9ae7 : ByteArray := prog_17_method_6_code
def yJxe99ae_isNaN_b9ae7 : MethodName := ⟨RJxe99ae, "isNaN", "(D)Z"⟩
abbrev cJxe99ae_doubleToLongBits_ccdee : ByteArray := prog_17_method_23_code
def yJxe99ae_doubleToLongBits_ccdee : MethodName := ⟨RJxe99ae, "doubleToLongBits", "(D)J"⟩
def RJxf58ca : String := "java/lang/Float"
def TJxf58ca : u_T := fun k => match k with
  | _ => ("", "", "", false)
def tyJxf58ca : Nat → FieldType := fun k => match k with
  | _ => .int
abbrev wsJxf58ca0 : List Cond := u_ws RJxf58ca TJxf58ca 0
theorem nmJxf58ca : ∀ a, a < 0 → ∀ b, b < 0 → a ≠ b → (TJxf58ca a).2.1 ≠ (TJxf58ca b).2.1 := by decide +kernel
theorem tyJxf58ca_ok : ∀ k, k < 0 → parseFieldDescriptor (TJxf58ca k).2.2.1 = some (tyJxf58ca k) := by decide +kernel
abbrev cJxf58ca_isNaN_12338 : ByteArray := prog_19_method_6_code
def yJxf58ca_isNaN_12338 : MethodName := ⟨RJxf58ca, "isNaN", "(F)Z"⟩
abbrev cJxf58ca_floatToIntBits_5c35a : ByteArray := prog_19_method_24_code
def yJxf58ca_floatToIntBits_5c35a : MethodName := ⟨RJxf58ca, "floatToIntBits", "(F)I"⟩
def RJ6 : String := "java/lang/Integer"
def TJ6 : u_T := fun k => match k with
  | _ => ("", "", "", false)
def tyJ6 : Nat → FieldType := fun k => match k with
  | _ => .int
abbrev wsJ60 : List Cond := u_ws RJ6 TJ6 0
theorem nmJ6 : ∀ a, a < 0 → ∀ b, b < 0 → a ≠ b → (TJ6 a).2.1 ≠ (TJ6 b).2.1 := by decide +kernel
theorem tyJ6_ok : ∀ k, k < 0 → parseFieldDescriptor (TJ6 k).2.2.1 = some (tyJ6 k) := by decide +kernel
abbrev cJ6_getChars_ba4f3 : ByteArray := prog_23_method_12_code
def yJ6_getChars_ba4f3 : MethodName := ⟨RJ6, "getChars", "(II[B)I"⟩
abbrev cJ6_stringSize_0f7a4 : ByteArray := prog_23_method_13_code
def yJ6_stringSize_0f7a4 : MethodName := ⟨RJ6, "stringSize", "(I)I"⟩
def RJ9 : String := "java/lang/Math"
def TJ9 : u_T := fun k => match k with
  | _ => ("", "", "", false)
def tyJ9 : Nat → FieldType := fun k => match k with
  | _ => .int
abbrev wsJ90 : List Cond := u_ws RJ9 TJ9 0
theorem nmJ9 : ∀ a, a < 0 → ∀ b, b < 0 → a ≠ b → (TJ9 a).2.1 ≠ (TJ9 b).2.1 := by decide +kernel
theorem tyJ9_ok : ∀ k, k < 0 → parseFieldDescriptor (TJ9 k).2.2.1 = some (tyJ9 k) := by decide +kernel
abbrev cJ9_abs_0f7a4 : ByteArray := prog_24_method_59_code
def yJ9_abs_0f7a4 : MethodName := ⟨RJ9, "abs", "(I)I"⟩
abbrev cJ9_max_7cf53 : ByteArray := prog_24_method_65_code
def yJ9_max_7cf53 : MethodName := ⟨RJ9, "max", "(II)I"⟩
abbrev cJ9_min_7cf53 : ByteArray := prog_24_method_69_code
def yJ9_min_7cf53 : MethodName := ⟨RJ9, "min", "(II)I"⟩
def RJxd2413 : String := "java/lang/Number"
def TJxd2413 : u_T := fun k => match k with
  | _ => ("", "", "", false)
def tyJxd2413 : Nat → FieldType := fun k => match k with
  | _ => .int
abbrev wsJxd24130 : List Cond := u_ws RJxd2413 TJxd2413 0
theorem nmJxd2413 : ∀ a, a < 0 → ∀ b, b < 0 → a ≠ b → (TJxd2413 a).2.1 ≠ (TJxd2413 b).2.1 := by decide +kernel
theorem tyJxd2413_ok : ∀ k, k < 0 → parseFieldDescriptor (TJxd2413 k).2.2.1 = some (tyJxd2413 k) := by decide +kernel
def RJ0 : String := "java/lang/String"
def TJ0 : u_T := fun k => match k with
  | 0 => ("java/lang/String", "value", "[B", true)
  | 1 => ("java/lang/String", "coder", "B", true)
  | 2 => ("java/lang/String", "hash", "I", false)
  | _ => ("java/lang/String", "hashIsZero", "Z", false)
def tyJ0 : Nat → FieldType := fun k => match k with
  | 0 => .array .byte
  | 1 => .byte
  | 2 => .int
  | _ => .boolean
abbrev wsJ00 : List Cond := u_ws RJ0 TJ0 4
theorem nmJ0 : ∀ a, a < 4 → ∀ b, b < 4 → a ≠ b → (TJ0 a).2.1 ≠ (TJ0 b).2.1 := by decide +kernel
theorem tyJ0_ok : ∀ k, k < 4 → parseFieldDescriptor (TJ0 k).2.2.1 = some (tyJ0 k) := by decide +kernel
abbrev cJ0_init_81219 : ByteArray := prog_27_method_53_code
def yJ0_init_81219 : MethodName := ⟨RJ0, "<init>", "(Ljava/lang/StringBuilder;)V"⟩
abbrev cJ0_length_8abf5 : ByteArray := prog_27_method_54_code
def yJ0_length_8abf5 : MethodName := ⟨RJ0, "length", "()I"⟩
abbrev cJ0_isEmpty_aae02 : ByteArray := prog_27_method_55_code
def yJ0_isEmpty_aae02 : MethodName := ⟨RJ0, "isEmpty", "()Z"⟩
abbrev cJ0_charAt_5068e : ByteArray := prog_27_method_56_code
def yJ0_charAt_5068e : MethodName := ⟨RJ0, "charAt", "(I)C"⟩
abbrev cJ0_getBytes_840e7 : ByteArray := prog_27_method_147_code
def yJ0_getBytes_840e7 : MethodName := ⟨RJ0, "getBytes", "([BIB)V"⟩
abbrev cJ0_init_db425 : ByteArray := prog_27_method_150_code
def yJ0_init_db425 : MethodName := ⟨RJ0, "<init>", "(Ljava/lang/AbstractStringBuilder;Ljava/lang/Void;)V"⟩
abbrev cJ0_coder_7d493 : ByteArray := prog_27_method_152_code
def yJ0_coder_7d493 : MethodName := ⟨RJ0, "coder", "()B"⟩
abbrev cJ0_isLatin1_aae02 : ByteArray := prog_27_method_154_code
def yJ0_isLatin1_aae02 : MethodName := ⟨RJ0, "isLatin1", "()Z"⟩
abbrev cJ0_checkIndex_df160 : ByteArray := prog_27_method_155_code
def yJ0_checkIndex_df160 : MethodName := ⟨RJ0, "checkIndex", "(II)V"⟩
abbrev cJ0_checkBoundsOffCount_cabcc : ByteArray := prog_27_method_157_code
def yJ0_checkBoundsOffCount_cabcc : MethodName := ⟨RJ0, "checkBoundsOffCount", "(III)I"⟩
abbrev cJ0_checkBoundsBeginEnd_23922 : ByteArray := prog_27_method_158_code
def yJ0_checkBoundsBeginEnd_23922 : MethodName := ⟨RJ0, "checkBoundsBeginEnd", "(III)V"⟩
def RJ4 : String := "java/lang/StringBuilder"
def TJ4 : u_T := fun k => match k with
  | 0 => ("java/lang/AbstractStringBuilder", "value", "[B", false)
  | 1 => ("java/lang/AbstractStringBuilder", "coder", "B", false)
  | 2 => ("java/lang/AbstractStringBuilder", "maybeLatin1", "Z", false)
  | _ => ("java/lang/AbstractStringBuilder", "count", "I", false)
def tyJ4 : Nat → FieldType := fun k => match k with
  | 0 => .array .byte
  | 1 => .byte
  | 2 => .boolean
  | _ => .int
abbrev wsJ40 : List Cond := u_ws RJ4 TJ4 4
theorem nmJ4 : ∀ a, a < 4 → ∀ b, b < 4 → a ≠ b → (TJ4 a).2.1 ≠ (TJ4 b).2.1 := by decide +kernel
theorem tyJ4_ok : ∀ k, k < 4 → parseFieldDescriptor (TJ4 k).2.2.1 = some (tyJ4 k) := by decide +kernel
abbrev cJ4_init_da8c8 : ByteArray := prog_28_method_1_code
def yJ4_init_da8c8 : MethodName := ⟨RJ4, "<init>", "()V"⟩
abbrev cJ4_append_15ec4 : ByteArray := prog_28_method_7_code
def yJ4_append_15ec4 : MethodName := ⟨RJ4, "append", "(Ljava/lang/String;)Ljava/lang/StringBuilder;"⟩
abbrev cJ4_append_bf812 : ByteArray := prog_28_method_15_code
def yJ4_append_bf812 : MethodName := ⟨RJ4, "append", "(I)Ljava/lang/StringBuilder;"⟩
abbrev cJ4_toString_0e30d : ByteArray := prog_28_method_42_code
def yJ4_toString_0e30d : MethodName := ⟨RJ4, "toString", "()Ljava/lang/String;"⟩
abbrev cJ4_length_8abf5 : ByteArray := prog_28_method_93_code
def yJ4_length_8abf5 : MethodName := ⟨RJ4, "length", "()I"⟩
def RJ1 : String := "java/lang/StringLatin1"
def TJ1 : u_T := fun k => match k with
  | _ => ("", "", "", false)
def tyJ1 : Nat → FieldType := fun k => match k with
  | _ => .int
abbrev wsJ10 : List Cond := u_ws RJ1 TJ1 0
theorem nmJ1 : ∀ a, a < 0 → ∀ b, b < 0 → a ≠ b → (TJ1 a).2.1 ≠ (TJ1 b).2.1 := by decide +kernel
theorem tyJ1_ok : ∀ k, k < 0 → parseFieldDescriptor (TJ1 k).2.2.1 = some (tyJ1 k) := by decide +kernel
abbrev cJ1_charAt_3b067 : ByteArray := prog_29_method_2_code
def yJ1_charAt_3b067 : MethodName := ⟨RJ1, "charAt", "([BI)C"⟩
abbrev cJ1_inflate_0e8fd : ByteArray := prog_29_method_50_code
def yJ1_inflate_0e8fd : MethodName := ⟨RJ1, "inflate", "([BI[BII)V"⟩
def RJ2 : String := "java/lang/StringUTF16"
def TJ2 : u_T := fun k => match k with
  | _ => ("", "", "", false)
def tyJ2 : Nat → FieldType := fun k => match k with
  | _ => .int
abbrev wsJ20 : List Cond := u_ws RJ2 TJ2 0
theorem nmJ2 : ∀ a, a < 0 → ∀ b, b < 0 → a ≠ b → (TJ2 a).2.1 ≠ (TJ2 b).2.1 := by decide +kernel
theorem tyJ2_ok : ∀ k, k < 0 → parseFieldDescriptor (TJ2 k).2.2.1 = some (tyJ2 k) := by decide +kernel
abbrev cJ2_newBytesFor_77867 : ByteArray := prog_30_method_2_code
def yJ2_newBytesFor_77867 : MethodName := ⟨RJ2, "newBytesFor", "(I)[B"⟩
abbrev cJ2_newBytesLength_0f7a4 : ByteArray := prog_30_method_3_code
def yJ2_newBytesLength_0f7a4 : MethodName := ⟨RJ2, "newBytesLength", "(I)I"⟩
abbrev cJ2_putChar_b72d1 : ByteArray := prog_30_method_4_code
def yJ2_putChar_b72d1 : MethodName := ⟨RJ2, "putChar", "([BII)V"⟩
abbrev cJ2_getChar_3b067 : ByteArray := prog_30_method_5_code
def yJ2_getChar_3b067 : MethodName := ⟨RJ2, "getChar", "([BI)C"⟩
abbrev cJ2_length_9d52b : ByteArray := prog_30_method_6_code
def yJ2_length_9d52b : MethodName := ⟨RJ2, "length", "([B)I"⟩
abbrev cJ2_coderFromArrayLen_85cad : ByteArray := prog_30_method_15_code
def yJ2_coderFromArrayLen_85cad : MethodName := ⟨RJ2, "coderFromArrayLen", "([BI)B"⟩
abbrev cJ2_compress_39247 : ByteArray := prog_30_method_17_code
def yJ2_compress_39247 : MethodName := ⟨RJ2, "compress", "([BII)[B"⟩
abbrev cJ2_compress_5af95 : ByteArray := prog_30_method_22_code
def yJ2_compress_5af95 : MethodName := ⟨RJ2, "compress", "([BI[BII)I"⟩
abbrev cJ2_getChars_46870 : ByteArray := prog_30_method_77_code
def yJ2_getChars_46870 : MethodName := ⟨RJ2, "getChars", "(III[B)I"⟩
abbrev cJ2_putCharsAt_cd4e5 : ByteArray := prog_30_method_81_code
def yJ2_putCharsAt_cd4e5 : MethodName := ⟨RJ2, "putCharsAt", "([BICCCC)I"⟩
abbrev cJ2_charAt_3b067 : ByteArray := prog_30_method_83_code
def yJ2_charAt_3b067 : MethodName := ⟨RJ2, "charAt", "([BI)C"⟩
abbrev cJ2_inflate_0e8fd : ByteArray := prog_30_method_86_code
def yJ2_inflate_0e8fd : MethodName := ⟨RJ2, "inflate", "([BI[BII)V"⟩
abbrev cJ2_getChars_ba4f3 : ByteArray := prog_30_method_89_code
def yJ2_getChars_ba4f3 : MethodName := ⟨RJ2, "getChars", "(II[B)I"⟩
abbrev cJ2_checkIndex_2214a : ByteArray := prog_30_method_91_code
def yJ2_checkIndex_2214a : MethodName := ⟨RJ2, "checkIndex", "(I[B)V"⟩
abbrev cJ2_checkBoundsBeginEnd_d044e : ByteArray := prog_30_method_93_code
def yJ2_checkBoundsBeginEnd_d044e : MethodName := ⟨RJ2, "checkBoundsBeginEnd", "(II[B)V"⟩
abbrev cJ2_checkBoundsOffCount_d044e : ByteArray := prog_30_method_94_code
def yJ2_checkBoundsOffCount_d044e : MethodName := ⟨RJ2, "checkBoundsOffCount", "(II[B)V"⟩
def RJ10 : String := "java/lang/System"
def TJ10 : u_T := fun k => match k with
  | _ => ("", "", "", false)
def tyJ10 : Nat → FieldType := fun k => match k with
  | _ => .int
abbrev wsJ100 : List Cond := u_ws RJ10 TJ10 0
theorem nmJ10 : ∀ a, a < 0 → ∀ b, b < 0 → a ≠ b → (TJ10 a).2.1 ≠ (TJ10 b).2.1 := by decide +kernel
theorem tyJ10_ok : ∀ k, k < 0 → parseFieldDescriptor (TJ10 k).2.2.1 = some (tyJ10 k) := by decide +kernel
def RJxfd54e : String := "java/lang/constant/Constable"
def TJxfd54e : u_T := fun k => match k with
  | _ => ("", "", "", false)
def tyJxfd54e : Nat → FieldType := fun k => match k with
  | _ => .int
abbrev wsJxfd54e0 : List Cond := u_ws RJxfd54e TJxfd54e 0
theorem nmJxfd54e : ∀ a, a < 0 → ∀ b, b < 0 → a ≠ b → (TJxfd54e a).2.1 ≠ (TJxfd54e b).2.1 := by decide +kernel
theorem tyJxfd54e_ok : ∀ k, k < 0 → parseFieldDescriptor (TJxfd54e k).2.2.1 = some (tyJxfd54e k) := by decide +kernel
def RJx3cf43 : String := "java/lang/constant/ConstantDesc"
def TJx3cf43 : u_T := fun k => match k with
  | _ => ("", "", "", false)
def tyJx3cf43 : Nat → FieldType := fun k => match k with
  | _ => .int
abbrev wsJx3cf430 : List Cond := u_ws RJx3cf43 TJx3cf43 0
theorem nmJx3cf43 : ∀ a, a < 0 → ∀ b, b < 0 → a ≠ b → (TJx3cf43 a).2.1 ≠ (TJx3cf43 b).2.1 := by decide +kernel
theorem tyJx3cf43_ok : ∀ k, k < 0 → parseFieldDescriptor (TJx3cf43 k).2.2.1 = some (tyJx3cf43 k) := by decide +kernel
def RJ7 : String := "java/util/Arrays"
def TJ7 : u_T := fun k => match k with
  | _ => ("", "", "", false)
def tyJ7 : Nat → FieldType := fun k => match k with
  | _ => .int
abbrev wsJ70 : List Cond := u_ws RJ7 TJ7 0
theorem nmJ7 : ∀ a, a < 0 → ∀ b, b < 0 → a ≠ b → (TJ7 a).2.1 ≠ (TJ7 b).2.1 := by decide +kernel
theorem tyJ7_ok : ∀ k, k < 0 → parseFieldDescriptor (TJ7 k).2.2.1 = some (tyJ7 k) := by decide +kernel
abbrev cJ7_copyOf_9075b : ByteArray := prog_36_method_121_code
def yJ7_copyOf_9075b : MethodName := ⟨RJ7, "copyOf", "([BI)[B"⟩
abbrev cJ7_checkLength_df160 : ByteArray := prog_36_method_131_code
def yJ7_checkLength_df160 : MethodName := ⟨RJ7, "checkLength", "(II)V"⟩
abbrev cJ7_copyOfRange_39247 : ByteArray := prog_36_method_132_code
def yJ7_copyOfRange_39247 : MethodName := ⟨RJ7, "copyOfRange", "([BII)[B"⟩
abbrev cJ7_copyOfRangeByte_39247 : ByteArray := prog_36_method_133_code
def yJ7_copyOfRangeByte_39247 : MethodName := ⟨RJ7, "copyOfRangeByte", "([BII)[B"⟩
def RJ8 : String := "jdk/internal/util/ArraysSupport"
def TJ8 : u_T := fun k => match k with
  | _ => ("", "", "", false)
def tyJ8 : Nat → FieldType := fun k => match k with
  | _ => .int
abbrev wsJ80 : List Cond := u_ws RJ8 TJ8 0
theorem nmJ8 : ∀ a, a < 0 → ∀ b, b < 0 → a ≠ b → (TJ8 a).2.1 ≠ (TJ8 b).2.1 := by decide +kernel
theorem tyJ8_ok : ∀ k, k < 0 → parseFieldDescriptor (TJ8 k).2.2.1 = some (tyJ8 k) := by decide +kernel
abbrev cJ8_newLength_cabcc : ByteArray := prog_38_method_27_code
def yJ8_newLength_cabcc : MethodName := ⟨RJ8, "newLength", "(III)I"⟩
abbrev cJ8_hugeLength_7cf53 : ByteArray := prog_38_method_28_code
def yJ8_hugeLength_7cf53 : MethodName := ⟨RJ8, "hugeLength", "(II)I"⟩
def RJ3 : String := "jdk/internal/util/Preconditions"
def TJ3 : u_T := fun k => match k with
  | _ => ("", "", "", false)
def tyJ3 : Nat → FieldType := fun k => match k with
  | _ => .int
abbrev wsJ30 : List Cond := u_ws RJ3 TJ3 0
theorem nmJ3 : ∀ a, a < 0 → ∀ b, b < 0 → a ≠ b → (TJ3 a).2.1 ≠ (TJ3 b).2.1 := by decide +kernel
theorem tyJ3_ok : ∀ k, k < 0 → parseFieldDescriptor (TJ3 k).2.2.1 = some (tyJ3 k) := by decide +kernel
abbrev cJ3_checkIndex_8e157 : ByteArray := prog_39_method_11_code
def yJ3_checkIndex_8e157 : MethodName := ⟨RJ3, "checkIndex", "(IILjava/util/function/BiFunction;)I"⟩
abbrev cJ3_checkFromToIndex_8c36e : ByteArray := prog_39_method_12_code
def yJ3_checkFromToIndex_8c36e : MethodName := ⟨RJ3, "checkFromToIndex", "(IIILjava/util/function/BiFunction;)I"⟩
abbrev cJ3_checkFromIndexSize_8c36e : ByteArray := prog_39_method_13_code
def yJ3_checkFromIndexSize_8c36e : MethodName := ⟨RJ3, "checkFromIndexSize", "(IIILjava/util/function/BiFunction;)I"⟩
def RL : String := "MirageSurveyLaw"
abbrev cL_at : ByteArray := method_2_code
def yL_at : MethodName := ⟨RL, "at", "([II)I"⟩
abbrev cL_some : ByteArray := method_3_code
def yL_some : MethodName := ⟨RL, "some", "(II)I"⟩
abbrev cL_stake : ByteArray := method_4_code
def yL_stake : MethodName := ⟨RL, "stake", "(LMirageSurvey;I)I"⟩
abbrev cL_post : ByteArray := method_5_code
def yL_post : MethodName := ⟨RL, "post", "(LMirageSurvey;II)I"⟩
abbrev cL_sheet : ByteArray := method_6_code
def yL_sheet : MethodName := ⟨RL, "sheet", "(LMirageSurvey;)I"⟩
abbrev cL_heat : ByteArray := method_7_code
def yL_heat : MethodName := ⟨RL, "heat", "(LMirageSurvey;I)I"⟩
abbrev cL_sight : ByteArray := method_8_code
def yL_sight : MethodName := ⟨RL, "sight", "(LMirageSurvey;III)I"⟩
abbrev cL_erase : ByteArray := method_9_code
def yL_erase : MethodName := ⟨RL, "erase", "(LMirageSurvey;II)I"⟩
abbrev cL_camel : ByteArray := method_10_code
def yL_camel : MethodName := ⟨RL, "camel", "(LMirageSurvey;I)I"⟩
abbrev cL_bell : ByteArray := method_11_code
def yL_bell : MethodName := ⟨RL, "bell", "(LMirageSurvey;I)I"⟩
abbrev cL_tie : ByteArray := method_12_code
def yL_tie : MethodName := ⟨RL, "tie", "(LMirageSurvey;I)I"⟩
abbrev cL_loose : ByteArray := method_13_code
def yL_loose : MethodName := ⟨RL, "loose", "(LMirageSurvey;I)I"⟩
abbrev cL_drink : ByteArray := method_14_code
def yL_drink : MethodName := ⟨RL, "drink", "(LMirageSurvey;I)I"⟩
abbrev cL_water : ByteArray := method_15_code
def yL_water : MethodName := ⟨RL, "water", "(LMirageSurvey;I)I"⟩
abbrev cL_hours : ByteArray := method_16_code
def yL_hours : MethodName := ⟨RL, "hours", "(LMirageSurvey;I)I"⟩
abbrev cL_stakeAt : ByteArray := method_17_code
def yL_stakeAt : MethodName := ⟨RL, "stakeAt", "(LMirageSurvey;I)I"⟩
abbrev cL_postOf : ByteArray := method_18_code
def yL_postOf : MethodName := ⟨RL, "postOf", "(LMirageSurvey;IZ)I"⟩
abbrev cL_camelOf : ByteArray := method_19_code
def yL_camelOf : MethodName := ⟨RL, "camelOf", "(LMirageSurvey;II)I"⟩
abbrev cL_drawnAt : ByteArray := method_20_code
def yL_drawnAt : MethodName := ⟨RL, "drawnAt", "(LMirageSurvey;II)I"⟩
abbrev cL_wrongBy : ByteArray := method_21_code
def yL_wrongBy : MethodName := ⟨RL, "wrongBy", "(LMirageSurvey;I)I"⟩
abbrev cL_seems : ByteArray := method_22_code
def yL_seems : MethodName := ⟨RL, "seems", "(LMirageSurvey;II)I"⟩
abbrev cL_seemsAgain : ByteArray := method_23_code
def yL_seemsAgain : MethodName := ⟨RL, "seemsAgain", "(LMirageSurvey;II)I"⟩
abbrev cL_shimmers : ByteArray := method_24_code
def yL_shimmers : MethodName := ⟨RL, "shimmers", "(LMirageSurvey;II)I"⟩
abbrev cL_bestPost : ByteArray := method_25_code
def yL_bestPost : MethodName := ⟨RL, "bestPost", "(LMirageSurvey;I)I"⟩
abbrev cL_clearIn : ByteArray := method_26_code
def yL_clearIn : MethodName := ⟨RL, "clearIn", "(LMirageSurvey;II)I"⟩
abbrev cL_heatIn : ByteArray := method_27_code
def yL_heatIn : MethodName := ⟨RL, "heatIn", "(LMirageSurvey;I)I"⟩
abbrev cL_lostIn : ByteArray := method_28_code
def yL_lostIn : MethodName := ⟨RL, "lostIn", "(LMirageSurvey;I)I"⟩
abbrev cL_nearest : ByteArray := method_29_code
def yL_nearest : MethodName := ⟨RL, "nearest", "(LMirageSurvey;I)I"⟩
abbrev cL_append : ByteArray := method_30_code
def yL_append : MethodName := ⟨RL, "append", "(LMirageSurvey;C)I"⟩
abbrev cL_commands : ByteArray := method_31_code
def yL_commands : MethodName := ⟨RL, "commands", "(LMirageSurvey;)I"⟩
abbrev cL_reason : ByteArray := method_32_code
def yL_reason : MethodName := ⟨RL, "reason", "(LMirageSurvey;I)I"⟩
abbrev cL_line : ByteArray := method_33_code
def yL_line : MethodName := ⟨RL, "line", "(LMirageSurvey;I)I"⟩
abbrev cL_character : ByteArray := method_34_code
def yL_character : MethodName := ⟨RL, "character", "(LMirageSurvey;I)I"⟩
abbrev cL_meanThirst : ByteArray := method_35_code
def yL_meanThirst : MethodName := ⟨RL, "meanThirst", "(LMirageSurvey;)F"⟩
abbrev cL_rightShare : ByteArray := method_36_code
def yL_rightShare : MethodName := ⟨RL, "rightShare", "(LMirageSurvey;)D"⟩
abbrev cL_account : ByteArray := method_37_code
def yL_account : MethodName := ⟨RL, "account", "(LMirageSurvey;I)I"⟩
abbrev cL_undo : ByteArray := method_38_code
def yL_undo : MethodName := ⟨RL, "undo", "(LMirageSurvey;)I"⟩
abbrev cL_restore : ByteArray := method_39_code
def yL_restore : MethodName := ⟨RL, "restore", "(LMirageSurvey;)I"⟩
abbrev cL_reads : ByteArray := method_40_code
def yL_reads : MethodName := ⟨RL, "reads", "(LMirageSurvey;Ljava/lang/String;)I"⟩
abbrev cL_is : ByteArray := method_41_code
def yL_is : MethodName := ⟨RL, "is", "(LMirageSurvey;III)Z"⟩
abbrev cL_makes : ByteArray := method_43_code
def yL_makes : MethodName := ⟨RL, "makes", "(LMirageSurvey;[I)Z"⟩
abbrev cL_asks : ByteArray := method_44_code
def yL_asks : MethodName := ⟨RL, "asks", "(LMirageSurvey;)J"⟩
abbrev cL_changes : ByteArray := method_45_code
def yL_changes : MethodName := ⟨RL, "changes", "(LMirageSurvey;I)Z"⟩
abbrev cL_refused : ByteArray := method_46_code
def yL_refused : MethodName := ⟨RL, "refused", "(LMirageSurvey;)Z"⟩
abbrev cL_law : ByteArray := code
def yL_law : MethodName := ⟨RL, "law", "([I)Z"⟩
abbrev vwCl : List vw_C := [(RJ0, TJ0, 4), (RJx00060, TJx00060, 6), (RX0, TX0, 13), (RX1, TX1, 3), (RX2, TX2, 2), (RX3, TX3, 2), (RX4, TX4, 5), (RX5, TX5, 12), (RJ4, TJ4, 4)]
end
section
theorem dX0_init_0 : decode cX0_init 0 = .ok (.aload_n 0, 1) := by decide +kernel
theorem dX0_init_1 : decode cX0_init 1 = .ok (.invokespecial 3, 3) := by decide +kernel
theorem dX0_init_4 : decode cX0_init 4 = .ok (.aload_n 0, 1) := by decide +kernel
theorem dX0_init_5 : decode cX0_init 5 = .ok (.new 9, 3) := by decide +kernel
theorem dX0_init_8 : decode cX0_init 8 = .ok (.dup, 1) := by decide +kernel
theorem dX0_init_9 : decode cX0_init 9 = .ok (.bipush 10, 2) := by decide +kernel
theorem dX0_init_11 : decode cX0_init 11 = .ok (.invokespecial 11, 3) := by decide +kernel
theorem dX0_init_14 : decode cX0_init 14 = .ok (.putfield 14, 3) := by decide +kernel
theorem dX0_init_17 : decode cX0_init 17 = .ok (.aload_n 0, 1) := by decide +kernel
theorem dX0_init_18 : decode cX0_init 18 = .ok (.new 9, 3) := by decide +kernel
theorem dX0_init_21 : decode cX0_init 21 = .ok (.dup, 1) := by decide +kernel
theorem dX0_init_22 : decode cX0_init 22 = .ok (.iconst 4, 1) := by decide +kernel
theorem dX0_init_23 : decode cX0_init 23 = .ok (.invokespecial 11, 3) := by decide +kernel
theorem dX0_init_26 : decode cX0_init 26 = .ok (.putfield 20, 3) := by decide +kernel
theorem dX0_init_29 : decode cX0_init 29 = .ok (.aload_n 0, 1) := by decide +kernel
theorem dX0_init_30 : decode cX0_init 30 = .ok (.new 9, 3) := by decide +kernel
theorem dX0_init_33 : decode cX0_init 33 = .ok (.dup, 1) := by decide +kernel
theorem dX0_init_34 : decode cX0_init 34 = .ok (.iconst 4, 1) := by decide +kernel
theorem dX0_init_35 : decode cX0_init 35 = .ok (.invokespecial 11, 3) := by decide +kernel
theorem dX0_init_38 : decode cX0_init 38 = .ok (.putfield 23, 3) := by decide +kernel
theorem dX0_init_41 : decode cX0_init 41 = .ok (.aload_n 0, 1) := by decide +kernel
theorem dX0_init_42 : decode cX0_init 42 = .ok (.new 9, 3) := by decide +kernel
theorem dX0_init_45 : decode cX0_init 45 = .ok (.dup, 1) := by decide +kernel
theorem dX0_init_46 : decode cX0_init 46 = .ok (.bipush 30, 2) := by decide +kernel
theorem dX0_init_48 : decode cX0_init 48 = .ok (.invokespecial 11, 3) := by decide +kernel
theorem dX0_init_51 : decode cX0_init 51 = .ok (.putfield 26, 3) := by decide +kernel
theorem dX0_init_54 : decode cX0_init 54 = .ok (.aload_n 0, 1) := by decide +kernel
theorem dX0_init_55 : decode cX0_init 55 = .ok (.new 9, 3) := by decide +kernel
theorem dX0_init_58 : decode cX0_init 58 = .ok (.dup, 1) := by decide +kernel
theorem dX0_init_59 : decode cX0_init 59 = .ok (.bipush 6, 2) := by decide +kernel
theorem dX0_init_61 : decode cX0_init 61 = .ok (.invokespecial 11, 3) := by decide +kernel
theorem dX0_init_64 : decode cX0_init 64 = .ok (.putfield 29, 3) := by decide +kernel
theorem dX0_init_67 : decode cX0_init 67 = .ok (.aload_n 0, 1) := by decide +kernel
theorem dX0_init_68 : decode cX0_init 68 = .ok (.new 9, 3) := by decide +kernel
theorem dX0_init_71 : decode cX0_init 71 = .ok (.dup, 1) := by decide +kernel
theorem dX0_init_72 : decode cX0_init 72 = .ok (.bipush 6, 2) := by decide +kernel
theorem dX0_init_74 : decode cX0_init 74 = .ok (.invokespecial 11, 3) := by decide +kernel
theorem dX0_init_77 : decode cX0_init 77 = .ok (.putfield 32, 3) := by decide +kernel
theorem dX0_init_80 : decode cX0_init 80 = .ok (.aload_n 0, 1) := by decide +kernel
theorem dX0_init_81 : decode cX0_init 81 = .ok (.new 9, 3) := by decide +kernel
theorem dX0_init_84 : decode cX0_init 84 = .ok (.dup, 1) := by decide +kernel
theorem dX0_init_85 : decode cX0_init 85 = .ok (.bipush 6, 2) := by decide +kernel
theorem dX0_init_87 : decode cX0_init 87 = .ok (.invokespecial 11, 3) := by decide +kernel
theorem dX0_init_90 : decode cX0_init 90 = .ok (.putfield 35, 3) := by decide +kernel
theorem dX0_init_93 : decode cX0_init 93 = .ok (.aload_n 0, 1) := by decide +kernel
theorem dX0_init_94 : decode cX0_init 94 = .ok (.new 9, 3) := by decide +kernel
theorem dX0_init_97 : decode cX0_init 97 = .ok (.dup, 1) := by decide +kernel
theorem dX0_init_98 : decode cX0_init 98 = .ok (.bipush 6, 2) := by decide +kernel
theorem dX0_init_100 : decode cX0_init 100 = .ok (.invokespecial 11, 3) := by decide +kernel
theorem dX0_init_103 : decode cX0_init 103 = .ok (.putfield 38, 3) := by decide +kernel
theorem dX0_init_106 : decode cX0_init 106 = .ok (.aload_n 0, 1) := by decide +kernel
theorem dX0_init_107 : decode cX0_init 107 = .ok (.iconst 0, 1) := by decide +kernel
theorem dX0_init_108 : decode cX0_init 108 = .ok (.putfield 41, 3) := by decide +kernel
theorem dX0_init_111 : decode cX0_init 111 = .ok (.aload_n 0, 1) := by decide +kernel
theorem dX0_init_112 : decode cX0_init 112 = .ok (.iconst 0, 1) := by decide +kernel
theorem dX0_init_113 : decode cX0_init 113 = .ok (.putfield 45, 3) := by decide +kernel
theorem dX0_init_116 : decode cX0_init 116 = .ok (.aload_n 0, 1) := by decide +kernel
theorem dX0_init_117 : decode cX0_init 117 = .ok (.iconst 5, 1) := by decide +kernel
theorem dX0_init_118 : decode cX0_init 118 = .ok (.putfield 48, 3) := by decide +kernel
theorem dX0_init_121 : decode cX0_init 121 = .ok (.aload_n 0, 1) := by decide +kernel
theorem dX0_init_122 : decode cX0_init 122 = .ok (.bipush 60, 2) := by decide +kernel
theorem dX0_init_124 : decode cX0_init 124 = .ok (.putfield 51, 3) := by decide +kernel
theorem dX0_init_127 : decode cX0_init 127 = .ok (.aload_n 0, 1) := by decide +kernel
theorem dX0_init_128 : decode cX0_init 128 = .ok (.iconst 0, 1) := by decide +kernel
theorem dX0_init_129 : decode cX0_init 129 = .ok (.putfield 54, 3) := by decide +kernel
theorem dX0_init_132 : decode cX0_init 132 = .ok (.iconst 0, 1) := by decide +kernel
theorem dX0_init_133 : decode cX0_init 133 = .ok (.istore_n 1, 1) := by decide +kernel
theorem dX0_init_134 : decode cX0_init 134 = .ok (.iload_n 1, 1) := by decide +kernel
theorem dX0_init_135 : decode cX0_init 135 = .ok (.bipush 30, 2) := by decide +kernel
theorem dX0_init_137 : decode cX0_init 137 = .ok (.if_icmp .ge 18, 3) := by decide +kernel
theorem dX0_init_140 : decode cX0_init 140 = .ok (.aload_n 0, 1) := by decide +kernel
theorem dX0_init_141 : decode cX0_init 141 = .ok (.getfield 26, 3) := by decide +kernel
theorem dX0_init_144 : decode cX0_init 144 = .ok (.iconst (-1), 1) := by decide +kernel
theorem dX0_init_145 : decode cX0_init 145 = .ok (.invokevirtual 57, 3) := by decide +kernel
theorem dX0_init_148 : decode cX0_init 148 = .ok (.pop, 1) := by decide +kernel
theorem dX0_init_149 : decode cX0_init 149 = .ok (.iinc 1 1, 3) := by decide +kernel
theorem dX0_init_152 : decode cX0_init 152 = .ok (.goto (-18), 3) := by decide +kernel
theorem dX0_init_155 : decode cX0_init 155 = .ok (.return_, 1) := by decide +kernel
theorem dX0_copyFrom_0 : decode cX0_copyFrom 0 = .ok (.aload_n 0, 1) := by decide +kernel
theorem dX0_copyFrom_1 : decode cX0_copyFrom 1 = .ok (.getfield 14, 3) := by decide +kernel
theorem dX0_copyFrom_4 : decode cX0_copyFrom 4 = .ok (.aload_n 1, 1) := by decide +kernel
theorem dX0_copyFrom_5 : decode cX0_copyFrom 5 = .ok (.getfield 14, 3) := by decide +kernel
theorem dX0_copyFrom_8 : decode cX0_copyFrom 8 = .ok (.invokevirtual 61, 3) := by decide +kernel
theorem dX0_copyFrom_11 : decode cX0_copyFrom 11 = .ok (.aload_n 0, 1) := by decide +kernel
theorem dX0_copyFrom_12 : decode cX0_copyFrom 12 = .ok (.getfield 20, 3) := by decide +kernel
theorem dX0_copyFrom_15 : decode cX0_copyFrom 15 = .ok (.aload_n 1, 1) := by decide +kernel
theorem dX0_copyFrom_16 : decode cX0_copyFrom 16 = .ok (.getfield 20, 3) := by decide +kernel
theorem dX0_copyFrom_19 : decode cX0_copyFrom 19 = .ok (.invokevirtual 61, 3) := by decide +kernel
theorem dX0_copyFrom_22 : decode cX0_copyFrom 22 = .ok (.aload_n 0, 1) := by decide +kernel
theorem dX0_copyFrom_23 : decode cX0_copyFrom 23 = .ok (.getfield 23, 3) := by decide +kernel
theorem dX0_copyFrom_26 : decode cX0_copyFrom 26 = .ok (.aload_n 1, 1) := by decide +kernel
theorem dX0_copyFrom_27 : decode cX0_copyFrom 27 = .ok (.getfield 23, 3) := by decide +kernel
theorem dX0_copyFrom_30 : decode cX0_copyFrom 30 = .ok (.invokevirtual 61, 3) := by decide +kernel
theorem dX0_copyFrom_33 : decode cX0_copyFrom 33 = .ok (.aload_n 0, 1) := by decide +kernel
theorem dX0_copyFrom_34 : decode cX0_copyFrom 34 = .ok (.getfield 26, 3) := by decide +kernel
theorem dX0_copyFrom_37 : decode cX0_copyFrom 37 = .ok (.aload_n 1, 1) := by decide +kernel
theorem dX0_copyFrom_38 : decode cX0_copyFrom 38 = .ok (.getfield 26, 3) := by decide +kernel
theorem dX0_copyFrom_41 : decode cX0_copyFrom 41 = .ok (.invokevirtual 61, 3) := by decide +kernel
theorem dX0_copyFrom_44 : decode cX0_copyFrom 44 = .ok (.aload_n 0, 1) := by decide +kernel
theorem dX0_copyFrom_45 : decode cX0_copyFrom 45 = .ok (.getfield 29, 3) := by decide +kernel
theorem dX0_copyFrom_48 : decode cX0_copyFrom 48 = .ok (.aload_n 1, 1) := by decide +kernel
theorem dX0_copyFrom_49 : decode cX0_copyFrom 49 = .ok (.getfield 29, 3) := by decide +kernel
theorem dX0_copyFrom_52 : decode cX0_copyFrom 52 = .ok (.invokevirtual 61, 3) := by decide +kernel
theorem dX0_copyFrom_55 : decode cX0_copyFrom 55 = .ok (.aload_n 0, 1) := by decide +kernel
theorem dX0_copyFrom_56 : decode cX0_copyFrom 56 = .ok (.getfield 32, 3) := by decide +kernel
theorem dX0_copyFrom_59 : decode cX0_copyFrom 59 = .ok (.aload_n 1, 1) := by decide +kernel
theorem dX0_copyFrom_60 : decode cX0_copyFrom 60 = .ok (.getfield 32, 3) := by decide +kernel
theorem dX0_copyFrom_63 : decode cX0_copyFrom 63 = .ok (.invokevirtual 61, 3) := by decide +kernel
theorem dX0_copyFrom_66 : decode cX0_copyFrom 66 = .ok (.aload_n 0, 1) := by decide +kernel
theorem dX0_copyFrom_67 : decode cX0_copyFrom 67 = .ok (.getfield 35, 3) := by decide +kernel
theorem dX0_copyFrom_70 : decode cX0_copyFrom 70 = .ok (.aload_n 1, 1) := by decide +kernel
theorem dX0_copyFrom_71 : decode cX0_copyFrom 71 = .ok (.getfield 35, 3) := by decide +kernel
theorem dX0_copyFrom_74 : decode cX0_copyFrom 74 = .ok (.invokevirtual 61, 3) := by decide +kernel
theorem dX0_copyFrom_77 : decode cX0_copyFrom 77 = .ok (.aload_n 0, 1) := by decide +kernel
theorem dX0_copyFrom_78 : decode cX0_copyFrom 78 = .ok (.getfield 38, 3) := by decide +kernel
theorem dX0_copyFrom_81 : decode cX0_copyFrom 81 = .ok (.aload_n 1, 1) := by decide +kernel
theorem dX0_copyFrom_82 : decode cX0_copyFrom 82 = .ok (.getfield 38, 3) := by decide +kernel
theorem dX0_copyFrom_85 : decode cX0_copyFrom 85 = .ok (.invokevirtual 61, 3) := by decide +kernel
theorem dX0_copyFrom_88 : decode cX0_copyFrom 88 = .ok (.aload_n 0, 1) := by decide +kernel
theorem dX0_copyFrom_89 : decode cX0_copyFrom 89 = .ok (.aload_n 1, 1) := by decide +kernel
theorem dX0_copyFrom_90 : decode cX0_copyFrom 90 = .ok (.getfield 41, 3) := by decide +kernel
theorem dX0_copyFrom_93 : decode cX0_copyFrom 93 = .ok (.putfield 41, 3) := by decide +kernel
theorem dX0_copyFrom_96 : decode cX0_copyFrom 96 = .ok (.aload_n 0, 1) := by decide +kernel
theorem dX0_copyFrom_97 : decode cX0_copyFrom 97 = .ok (.aload_n 1, 1) := by decide +kernel
theorem dX0_copyFrom_98 : decode cX0_copyFrom 98 = .ok (.getfield 45, 3) := by decide +kernel
theorem dX0_copyFrom_101 : decode cX0_copyFrom 101 = .ok (.putfield 45, 3) := by decide +kernel
theorem dX0_copyFrom_104 : decode cX0_copyFrom 104 = .ok (.aload_n 0, 1) := by decide +kernel
theorem dX0_copyFrom_105 : decode cX0_copyFrom 105 = .ok (.aload_n 1, 1) := by decide +kernel
theorem dX0_copyFrom_106 : decode cX0_copyFrom 106 = .ok (.getfield 48, 3) := by decide +kernel
theorem dX0_copyFrom_109 : decode cX0_copyFrom 109 = .ok (.putfield 48, 3) := by decide +kernel
theorem dX0_copyFrom_112 : decode cX0_copyFrom 112 = .ok (.aload_n 0, 1) := by decide +kernel
theorem dX0_copyFrom_113 : decode cX0_copyFrom 113 = .ok (.aload_n 1, 1) := by decide +kernel
theorem dX0_copyFrom_114 : decode cX0_copyFrom 114 = .ok (.getfield 51, 3) := by decide +kernel
theorem dX0_copyFrom_117 : decode cX0_copyFrom 117 = .ok (.putfield 51, 3) := by decide +kernel
theorem dX0_copyFrom_120 : decode cX0_copyFrom 120 = .ok (.aload_n 0, 1) := by decide +kernel
theorem dX0_copyFrom_121 : decode cX0_copyFrom 121 = .ok (.aload_n 1, 1) := by decide +kernel
theorem dX0_copyFrom_122 : decode cX0_copyFrom 122 = .ok (.getfield 54, 3) := by decide +kernel
theorem dX0_copyFrom_125 : decode cX0_copyFrom 125 = .ok (.putfield 54, 3) := by decide +kernel
theorem dX0_copyFrom_128 : decode cX0_copyFrom 128 = .ok (.return_, 1) := by decide +kernel
theorem dX0_heatAt_0 : decode cX0_heatAt 0 = .ok (.iload_n 1, 1) := by decide +kernel
theorem dX0_heatAt_1 : decode cX0_heatAt 1 = .ok (.bipush 24, 2) := by decide +kernel
theorem dX0_heatAt_3 : decode cX0_heatAt 3 = .ok (.irem, 1) := by decide +kernel
theorem dX0_heatAt_4 : decode cX0_heatAt 4 = .ok (.istore_n 2, 1) := by decide +kernel
theorem dX0_heatAt_5 : decode cX0_heatAt 5 = .ok (.iload_n 2, 1) := by decide +kernel
theorem dX0_heatAt_6 : decode cX0_heatAt 6 = .ok (.bipush 12, 2) := by decide +kernel
theorem dX0_heatAt_8 : decode cX0_heatAt 8 = .ok (.if_icmp .gt 7, 3) := by decide +kernel
theorem dX0_heatAt_11 : decode cX0_heatAt 11 = .ok (.iload_n 2, 1) := by decide +kernel
theorem dX0_heatAt_12 : decode cX0_heatAt 12 = .ok (.goto 7, 3) := by decide +kernel
theorem dX0_heatAt_15 : decode cX0_heatAt 15 = .ok (.bipush 24, 2) := by decide +kernel
theorem dX0_heatAt_17 : decode cX0_heatAt 17 = .ok (.iload_n 2, 1) := by decide +kernel
theorem dX0_heatAt_18 : decode cX0_heatAt 18 = .ok (.isub, 1) := by decide +kernel
theorem dX0_heatAt_19 : decode cX0_heatAt 19 = .ok (.istore_n 3, 1) := by decide +kernel
theorem dX0_heatAt_20 : decode cX0_heatAt 20 = .ok (.aload_n 0, 1) := by decide +kernel
theorem dX0_heatAt_21 : decode cX0_heatAt 21 = .ok (.getfield 48, 3) := by decide +kernel
theorem dX0_heatAt_24 : decode cX0_heatAt 24 = .ok (.iload_n 3, 1) := by decide +kernel
theorem dX0_heatAt_25 : decode cX0_heatAt 25 = .ok (.imul, 1) := by decide +kernel
theorem dX0_heatAt_26 : decode cX0_heatAt 26 = .ok (.bipush 6, 2) := by decide +kernel
theorem dX0_heatAt_28 : decode cX0_heatAt 28 = .ok (.idiv, 1) := by decide +kernel
theorem dX0_heatAt_29 : decode cX0_heatAt 29 = .ok (.ireturn, 1) := by decide +kernel
theorem dX0_heatNow_0 : decode cX0_heatNow 0 = .ok (.aload_n 0, 1) := by decide +kernel
theorem dX0_heatNow_1 : decode cX0_heatNow 1 = .ok (.aload_n 0, 1) := by decide +kernel
theorem dX0_heatNow_2 : decode cX0_heatNow 2 = .ok (.getfield 45, 3) := by decide +kernel
theorem dX0_heatNow_5 : decode cX0_heatNow 5 = .ok (.invokevirtual 65, 3) := by decide +kernel
theorem dX0_heatNow_8 : decode cX0_heatNow 8 = .ok (.ireturn, 1) := by decide +kernel
theorem dX0_bellReach_0 : decode cX0_bellReach 0 = .ok (.bipush 30, 2) := by decide +kernel
theorem dX0_bellReach_2 : decode cX0_bellReach 2 = .ok (.aload_n 0, 1) := by decide +kernel
theorem dX0_bellReach_3 : decode cX0_bellReach 3 = .ok (.invokevirtual 68, 3) := by decide +kernel
theorem dX0_bellReach_6 : decode cX0_bellReach 6 = .ok (.isub, 1) := by decide +kernel
theorem dX0_bellReach_7 : decode cX0_bellReach 7 = .ok (.ireturn, 1) := by decide +kernel
theorem dX0_farFrom_0 : decode cX0_farFrom 0 = .ok (.aload_n 0, 1) := by decide +kernel
theorem dX0_farFrom_1 : decode cX0_farFrom 1 = .ok (.getfield 14, 3) := by decide +kernel
theorem dX0_farFrom_4 : decode cX0_farFrom 4 = .ok (.iload_n 1, 1) := by decide +kernel
theorem dX0_farFrom_5 : decode cX0_farFrom 5 = .ok (.invokevirtual 72, 3) := by decide +kernel
theorem dX0_farFrom_8 : decode cX0_farFrom 8 = .ok (.aload_n 0, 1) := by decide +kernel
theorem dX0_farFrom_9 : decode cX0_farFrom 9 = .ok (.getfield 20, 3) := by decide +kernel
theorem dX0_farFrom_12 : decode cX0_farFrom 12 = .ok (.iload_n 2, 1) := by decide +kernel
theorem dX0_farFrom_13 : decode cX0_farFrom 13 = .ok (.invokevirtual 72, 3) := by decide +kernel
theorem dX0_farFrom_16 : decode cX0_farFrom 16 = .ok (.isub, 1) := by decide +kernel
theorem dX0_farFrom_17 : decode cX0_farFrom 17 = .ok (.invokestatic 75, 3) := by decide +kernel
theorem dX0_farFrom_20 : decode cX0_farFrom 20 = .ok (.ireturn, 1) := by decide +kernel
theorem dX0_isTooHot_0 : decode cX0_isTooHot 0 = .ok (.iload_n 0, 1) := by decide +kernel
theorem dX0_isTooHot_1 : decode cX0_isTooHot 1 = .ok (.iload_n 1, 1) := by decide +kernel
theorem dX0_isTooHot_2 : decode cX0_isTooHot 2 = .ok (.imul, 1) := by decide +kernel
theorem dX0_isTooHot_3 : decode cX0_isTooHot 3 = .ok (.bipush 10, 2) := by decide +kernel
theorem dX0_isTooHot_5 : decode cX0_isTooHot 5 = .ok (.idiv, 1) := by decide +kernel
theorem dX0_isTooHot_6 : decode cX0_isTooHot 6 = .ok (.iconst 2, 1) := by decide +kernel
theorem dX0_isTooHot_7 : decode cX0_isTooHot 7 = .ok (.iload_n 2, 1) := by decide +kernel
theorem dX0_isTooHot_8 : decode cX0_isTooHot 8 = .ok (.imul, 1) := by decide +kernel
theorem dX0_isTooHot_9 : decode cX0_isTooHot 9 = .ok (.if_icmp .le 7, 3) := by decide +kernel
theorem dX0_isTooHot_12 : decode cX0_isTooHot 12 = .ok (.iconst 1, 1) := by decide +kernel
theorem dX0_isTooHot_13 : decode cX0_isTooHot 13 = .ok (.goto 4, 3) := by decide +kernel
theorem dX0_isTooHot_16 : decode cX0_isTooHot 16 = .ok (.iconst 0, 1) := by decide +kernel
theorem dX0_isTooHot_17 : decode cX0_isTooHot 17 = .ok (.ireturn, 1) := by decide +kernel
theorem dX0_isShimmering_0 : decode cX0_isShimmering 0 = .ok (.iload_n 3, 1) := by decide +kernel
theorem dX0_isShimmering_1 : decode cX0_isShimmering 1 = .ok (.aload_n 0, 1) := by decide +kernel
theorem dX0_isShimmering_2 : decode cX0_isShimmering 2 = .ok (.iload_n 1, 1) := by decide +kernel
theorem dX0_isShimmering_3 : decode cX0_isShimmering 3 = .ok (.iload_n 2, 1) := by decide +kernel
theorem dX0_isShimmering_4 : decode cX0_isShimmering 4 = .ok (.invokevirtual 80, 3) := by decide +kernel
theorem dX0_isShimmering_7 : decode cX0_isShimmering 7 = .ok (.aload_n 0, 1) := by decide +kernel
theorem dX0_isShimmering_8 : decode cX0_isShimmering 8 = .ok (.getfield 23, 3) := by decide +kernel
theorem dX0_isShimmering_11 : decode cX0_isShimmering 11 = .ok (.iload_n 2, 1) := by decide +kernel
theorem dX0_isShimmering_12 : decode cX0_isShimmering 12 = .ok (.invokevirtual 72, 3) := by decide +kernel
theorem dX0_isShimmering_15 : decode cX0_isShimmering 15 = .ok (.invokestatic 84, 3) := by decide +kernel
theorem dX0_isShimmering_18 : decode cX0_isShimmering 18 = .ok (.ireturn, 1) := by decide +kernel
theorem dX0_heatTooMuch_0 : decode cX0_heatTooMuch 0 = .ok (.aload_n 0, 1) := by decide +kernel
theorem dX0_heatTooMuch_1 : decode cX0_heatTooMuch 1 = .ok (.invokevirtual 68, 3) := by decide +kernel
theorem dX0_heatTooMuch_4 : decode cX0_heatTooMuch 4 = .ok (.istore_n 3, 1) := by decide +kernel
theorem dX0_heatTooMuch_5 : decode cX0_heatTooMuch 5 = .ok (.aload_n 0, 1) := by decide +kernel
theorem dX0_heatTooMuch_6 : decode cX0_heatTooMuch 6 = .ok (.iload_n 1, 1) := by decide +kernel
theorem dX0_heatTooMuch_7 : decode cX0_heatTooMuch 7 = .ok (.iload_n 2, 1) := by decide +kernel
theorem dX0_heatTooMuch_8 : decode cX0_heatTooMuch 8 = .ok (.invokevirtual 80, 3) := by decide +kernel
theorem dX0_heatTooMuch_11 : decode cX0_heatTooMuch 11 = .ok (.istore 4, 2) := by decide +kernel
theorem dX0_heatTooMuch_13 : decode cX0_heatTooMuch 13 = .ok (.iconst 0, 1) := by decide +kernel
theorem dX0_heatTooMuch_14 : decode cX0_heatTooMuch 14 = .ok (.istore 5, 2) := by decide +kernel
theorem dX0_heatTooMuch_16 : decode cX0_heatTooMuch 16 = .ok (.iload 5, 2) := by decide +kernel
theorem dX0_heatTooMuch_18 : decode cX0_heatTooMuch 18 = .ok (.iload_n 3, 1) := by decide +kernel
theorem dX0_heatTooMuch_19 : decode cX0_heatTooMuch 19 = .ok (.if_icmp .ge 29, 3) := by decide +kernel
theorem dX0_heatTooMuch_22 : decode cX0_heatTooMuch 22 = .ok (.iload_n 3, 1) := by decide +kernel
theorem dX0_heatTooMuch_23 : decode cX0_heatTooMuch 23 = .ok (.iload 5, 2) := by decide +kernel
theorem dX0_heatTooMuch_25 : decode cX0_heatTooMuch 25 = .ok (.isub, 1) := by decide +kernel
theorem dX0_heatTooMuch_26 : decode cX0_heatTooMuch 26 = .ok (.iload 4, 2) := by decide +kernel
theorem dX0_heatTooMuch_28 : decode cX0_heatTooMuch 28 = .ok (.aload_n 0, 1) := by decide +kernel
theorem dX0_heatTooMuch_29 : decode cX0_heatTooMuch 29 = .ok (.getfield 23, 3) := by decide +kernel
theorem dX0_heatTooMuch_32 : decode cX0_heatTooMuch 32 = .ok (.iload_n 2, 1) := by decide +kernel
theorem dX0_heatTooMuch_33 : decode cX0_heatTooMuch 33 = .ok (.invokevirtual 72, 3) := by decide +kernel
theorem dX0_heatTooMuch_36 : decode cX0_heatTooMuch 36 = .ok (.invokestatic 84, 3) := by decide +kernel
theorem dX0_heatTooMuch_39 : decode cX0_heatTooMuch 39 = .ok (.ifCond .eq 9, 3) := by decide +kernel
theorem dX0_heatTooMuch_42 : decode cX0_heatTooMuch 42 = .ok (.iinc 5 1, 3) := by decide +kernel
theorem dX0_heatTooMuch_45 : decode cX0_heatTooMuch 45 = .ok (.goto (-29), 3) := by decide +kernel
theorem dX0_heatTooMuch_48 : decode cX0_heatTooMuch 48 = .ok (.iload 5, 2) := by decide +kernel
theorem dX0_heatTooMuch_50 : decode cX0_heatTooMuch 50 = .ok (.ireturn, 1) := by decide +kernel
theorem dX0_bending_0 : decode cX0_bending 0 = .ok (.aload_n 0, 1) := by decide +kernel
theorem dX0_bending_1 : decode cX0_bending 1 = .ok (.invokevirtual 68, 3) := by decide +kernel
theorem dX0_bending_4 : decode cX0_bending 4 = .ok (.aload_n 0, 1) := by decide +kernel
theorem dX0_bending_5 : decode cX0_bending 5 = .ok (.iload_n 1, 1) := by decide +kernel
theorem dX0_bending_6 : decode cX0_bending 6 = .ok (.iload_n 2, 1) := by decide +kernel
theorem dX0_bending_7 : decode cX0_bending 7 = .ok (.invokevirtual 80, 3) := by decide +kernel
theorem dX0_bending_10 : decode cX0_bending 10 = .ok (.imul, 1) := by decide +kernel
theorem dX0_bending_11 : decode cX0_bending 11 = .ok (.bipush 50, 2) := by decide +kernel
theorem dX0_bending_13 : decode cX0_bending 13 = .ok (.idiv, 1) := by decide +kernel
theorem dX0_bending_14 : decode cX0_bending 14 = .ok (.ireturn, 1) := by decide +kernel
theorem dX0_bendingWay_0 : decode cX0_bendingWay 0 = .ok (.aload_n 0, 1) := by decide +kernel
theorem dX0_bendingWay_1 : decode cX0_bendingWay 1 = .ok (.getfield 20, 3) := by decide +kernel
theorem dX0_bendingWay_4 : decode cX0_bendingWay 4 = .ok (.iload_n 2, 1) := by decide +kernel
theorem dX0_bendingWay_5 : decode cX0_bendingWay 5 = .ok (.invokevirtual 72, 3) := by decide +kernel
theorem dX0_bendingWay_8 : decode cX0_bendingWay 8 = .ok (.aload_n 0, 1) := by decide +kernel
theorem dX0_bendingWay_9 : decode cX0_bendingWay 9 = .ok (.getfield 14, 3) := by decide +kernel
theorem dX0_bendingWay_12 : decode cX0_bendingWay 12 = .ok (.iload_n 1, 1) := by decide +kernel
theorem dX0_bendingWay_13 : decode cX0_bendingWay 13 = .ok (.invokevirtual 72, 3) := by decide +kernel
theorem dX0_bendingWay_16 : decode cX0_bendingWay 16 = .ok (.invokestatic 88, 3) := by decide +kernel
theorem dX0_bendingWay_19 : decode cX0_bendingWay 19 = .ok (.istore_n 3, 1) := by decide +kernel
theorem dX0_bendingWay_20 : decode cX0_bendingWay 20 = .ok (.aload_n 0, 1) := by decide +kernel
theorem dX0_bendingWay_21 : decode cX0_bendingWay 21 = .ok (.getfield 45, 3) := by decide +kernel
theorem dX0_bendingWay_24 : decode cX0_bendingWay 24 = .ok (.bipush 24, 2) := by decide +kernel
theorem dX0_bendingWay_26 : decode cX0_bendingWay 26 = .ok (.irem, 1) := by decide +kernel
theorem dX0_bendingWay_27 : decode cX0_bendingWay 27 = .ok (.bipush 12, 2) := by decide +kernel
theorem dX0_bendingWay_29 : decode cX0_bendingWay 29 = .ok (.if_icmp .ge 7, 3) := by decide +kernel
theorem dX0_bendingWay_32 : decode cX0_bendingWay 32 = .ok (.iload_n 3, 1) := by decide +kernel
theorem dX0_bendingWay_33 : decode cX0_bendingWay 33 = .ok (.goto 5, 3) := by decide +kernel
theorem dX0_bendingWay_36 : decode cX0_bendingWay 36 = .ok (.iload_n 3, 1) := by decide +kernel
theorem dX0_bendingWay_37 : decode cX0_bendingWay 37 = .ok (.ineg, 1) := by decide +kernel
theorem dX0_bendingWay_38 : decode cX0_bendingWay 38 = .ok (.ireturn, 1) := by decide +kernel
theorem dX0_seemingPlace_0 : decode cX0_seemingPlace 0 = .ok (.aload_n 0, 1) := by decide +kernel
theorem dX0_seemingPlace_1 : decode cX0_seemingPlace 1 = .ok (.getfield 14, 3) := by decide +kernel
theorem dX0_seemingPlace_4 : decode cX0_seemingPlace 4 = .ok (.iload_n 1, 1) := by decide +kernel
theorem dX0_seemingPlace_5 : decode cX0_seemingPlace 5 = .ok (.invokevirtual 72, 3) := by decide +kernel
theorem dX0_seemingPlace_8 : decode cX0_seemingPlace 8 = .ok (.aload_n 0, 1) := by decide +kernel
theorem dX0_seemingPlace_9 : decode cX0_seemingPlace 9 = .ok (.iload_n 1, 1) := by decide +kernel
theorem dX0_seemingPlace_10 : decode cX0_seemingPlace 10 = .ok (.iload_n 2, 1) := by decide +kernel
theorem dX0_seemingPlace_11 : decode cX0_seemingPlace 11 = .ok (.invokevirtual 91, 3) := by decide +kernel
theorem dX0_seemingPlace_14 : decode cX0_seemingPlace 14 = .ok (.aload_n 0, 1) := by decide +kernel
theorem dX0_seemingPlace_15 : decode cX0_seemingPlace 15 = .ok (.iload_n 1, 1) := by decide +kernel
theorem dX0_seemingPlace_16 : decode cX0_seemingPlace 16 = .ok (.iload_n 2, 1) := by decide +kernel
theorem dX0_seemingPlace_17 : decode cX0_seemingPlace 17 = .ok (.invokevirtual 94, 3) := by decide +kernel
theorem dX0_seemingPlace_20 : decode cX0_seemingPlace 20 = .ok (.imul, 1) := by decide +kernel
theorem dX0_seemingPlace_21 : decode cX0_seemingPlace 21 = .ok (.iadd, 1) := by decide +kernel
theorem dX0_seemingPlace_22 : decode cX0_seemingPlace 22 = .ok (.invokestatic 97, 3) := by decide +kernel
theorem dX0_seemingPlace_25 : decode cX0_seemingPlace 25 = .ok (.ireturn, 1) := by decide +kernel
theorem dX0_walkedPlace_0 : decode cX0_walkedPlace 0 = .ok (.aload_n 0, 1) := by decide +kernel
theorem dX0_walkedPlace_1 : decode cX0_walkedPlace 1 = .ok (.iload_n 1, 1) := by decide +kernel
theorem dX0_walkedPlace_2 : decode cX0_walkedPlace 2 = .ok (.iload_n 2, 1) := by decide +kernel
theorem dX0_walkedPlace_3 : decode cX0_walkedPlace 3 = .ok (.invokevirtual 91, 3) := by decide +kernel
theorem dX0_walkedPlace_6 : decode cX0_walkedPlace 6 = .ok (.istore_n 3, 1) := by decide +kernel
theorem dX0_walkedPlace_7 : decode cX0_walkedPlace 7 = .ok (.aload_n 0, 1) := by decide +kernel
theorem dX0_walkedPlace_8 : decode cX0_walkedPlace 8 = .ok (.getfield 14, 3) := by decide +kernel
theorem dX0_walkedPlace_11 : decode cX0_walkedPlace 11 = .ok (.iload_n 1, 1) := by decide +kernel
theorem dX0_walkedPlace_12 : decode cX0_walkedPlace 12 = .ok (.invokevirtual 72, 3) := by decide +kernel
theorem dX0_walkedPlace_15 : decode cX0_walkedPlace 15 = .ok (.istore 4, 2) := by decide +kernel
theorem dX0_walkedPlace_17 : decode cX0_walkedPlace 17 = .ok (.aload_n 0, 1) := by decide +kernel
theorem dX0_walkedPlace_18 : decode cX0_walkedPlace 18 = .ok (.iload_n 1, 1) := by decide +kernel
theorem dX0_walkedPlace_19 : decode cX0_walkedPlace 19 = .ok (.iload_n 2, 1) := by decide +kernel
theorem dX0_walkedPlace_20 : decode cX0_walkedPlace 20 = .ok (.invokevirtual 94, 3) := by decide +kernel
theorem dX0_walkedPlace_23 : decode cX0_walkedPlace 23 = .ok (.istore 5, 2) := by decide +kernel
theorem dX0_walkedPlace_25 : decode cX0_walkedPlace 25 = .ok (.iload 5, 2) := by decide +kernel
theorem dX0_walkedPlace_27 : decode cX0_walkedPlace 27 = .ok (.ifCond .le 25, 3) := by decide +kernel
theorem dX0_walkedPlace_30 : decode cX0_walkedPlace 30 = .ok (.iload 4, 2) := by decide +kernel
theorem dX0_walkedPlace_32 : decode cX0_walkedPlace 32 = .ok (.iload_n 3, 1) := by decide +kernel
theorem dX0_walkedPlace_33 : decode cX0_walkedPlace 33 = .ok (.iadd, 1) := by decide +kernel
theorem dX0_walkedPlace_34 : decode cX0_walkedPlace 34 = .ok (.invokestatic 100, 3) := by decide +kernel
theorem dX0_walkedPlace_37 : decode cX0_walkedPlace 37 = .ok (.ifCond .eq 15, 3) := by decide +kernel
theorem dX0_walkedPlace_40 : decode cX0_walkedPlace 40 = .ok (.iload 4, 2) := by decide +kernel
theorem dX0_walkedPlace_42 : decode cX0_walkedPlace 42 = .ok (.iload_n 3, 1) := by decide +kernel
theorem dX0_walkedPlace_43 : decode cX0_walkedPlace 43 = .ok (.iadd, 1) := by decide +kernel
theorem dX0_walkedPlace_44 : decode cX0_walkedPlace 44 = .ok (.istore 4, 2) := by decide +kernel
theorem dX0_walkedPlace_46 : decode cX0_walkedPlace 46 = .ok (.iinc 5 (-1), 3) := by decide +kernel
theorem dX0_walkedPlace_49 : decode cX0_walkedPlace 49 = .ok (.goto (-24), 3) := by decide +kernel
theorem dX0_walkedPlace_52 : decode cX0_walkedPlace 52 = .ok (.iload 4, 2) := by decide +kernel
theorem dX0_walkedPlace_54 : decode cX0_walkedPlace 54 = .ok (.ireturn, 1) := by decide +kernel
theorem dX0_clearestPost_0 : decode cX0_clearestPost 0 = .ok (.iconst (-1), 1) := by decide +kernel
theorem dX0_clearestPost_1 : decode cX0_clearestPost 1 = .ok (.istore_n 2, 1) := by decide +kernel
theorem dX0_clearestPost_2 : decode cX0_clearestPost 2 = .ok (.iconst 0, 1) := by decide +kernel
theorem dX0_clearestPost_3 : decode cX0_clearestPost 3 = .ok (.istore_n 3, 1) := by decide +kernel
theorem dX0_clearestPost_4 : decode cX0_clearestPost 4 = .ok (.iload_n 3, 1) := by decide +kernel
theorem dX0_clearestPost_5 : decode cX0_clearestPost 5 = .ok (.aload_n 0, 1) := by decide +kernel
theorem dX0_clearestPost_6 : decode cX0_clearestPost 6 = .ok (.getfield 20, 3) := by decide +kernel
theorem dX0_clearestPost_9 : decode cX0_clearestPost 9 = .ok (.invokevirtual 104, 3) := by decide +kernel
theorem dX0_clearestPost_12 : decode cX0_clearestPost 12 = .ok (.if_icmp .ge 42, 3) := by decide +kernel
theorem dX0_clearestPost_15 : decode cX0_clearestPost 15 = .ok (.aload_n 0, 1) := by decide +kernel
theorem dX0_clearestPost_16 : decode cX0_clearestPost 16 = .ok (.iload_n 1, 1) := by decide +kernel
theorem dX0_clearestPost_17 : decode cX0_clearestPost 17 = .ok (.iload_n 3, 1) := by decide +kernel
theorem dX0_clearestPost_18 : decode cX0_clearestPost 18 = .ok (.aload_n 0, 1) := by decide +kernel
theorem dX0_clearestPost_19 : decode cX0_clearestPost 19 = .ok (.invokevirtual 68, 3) := by decide +kernel
theorem dX0_clearestPost_22 : decode cX0_clearestPost 22 = .ok (.invokevirtual 107, 3) := by decide +kernel
theorem dX0_clearestPost_25 : decode cX0_clearestPost 25 = .ok (.ifCond .eq 6, 3) := by decide +kernel
theorem dX0_clearestPost_28 : decode cX0_clearestPost 28 = .ok (.goto 20, 3) := by decide +kernel
theorem dX0_clearestPost_31 : decode cX0_clearestPost 31 = .ok (.iload_n 2, 1) := by decide +kernel
theorem dX0_clearestPost_32 : decode cX0_clearestPost 32 = .ok (.iconst (-1), 1) := by decide +kernel
theorem dX0_clearestPost_33 : decode cX0_clearestPost 33 = .ok (.if_icmp .eq 13, 3) := by decide +kernel
theorem dX0_clearestPost_36 : decode cX0_clearestPost 36 = .ok (.aload_n 0, 1) := by decide +kernel
theorem dX0_clearestPost_37 : decode cX0_clearestPost 37 = .ok (.iload_n 1, 1) := by decide +kernel
theorem dX0_clearestPost_38 : decode cX0_clearestPost 38 = .ok (.iload_n 3, 1) := by decide +kernel
theorem dX0_clearestPost_39 : decode cX0_clearestPost 39 = .ok (.iload_n 2, 1) := by decide +kernel
theorem dX0_clearestPost_40 : decode cX0_clearestPost 40 = .ok (.invokevirtual 110, 3) := by decide +kernel
theorem dX0_clearestPost_43 : decode cX0_clearestPost 43 = .ok (.ifCond .eq 5, 3) := by decide +kernel
theorem dX0_clearestPost_46 : decode cX0_clearestPost 46 = .ok (.iload_n 3, 1) := by decide +kernel
theorem dX0_clearestPost_47 : decode cX0_clearestPost 47 = .ok (.istore_n 2, 1) := by decide +kernel
theorem dX0_clearestPost_48 : decode cX0_clearestPost 48 = .ok (.iinc 3 1, 3) := by decide +kernel
theorem dX0_clearestPost_51 : decode cX0_clearestPost 51 = .ok (.goto (-47), 3) := by decide +kernel
theorem dX0_clearestPost_54 : decode cX0_clearestPost 54 = .ok (.iload_n 2, 1) := by decide +kernel
theorem dX0_clearestPost_55 : decode cX0_clearestPost 55 = .ok (.ireturn, 1) := by decide +kernel
theorem dX0_isBetterPost_0 : decode cX0_isBetterPost 0 = .ok (.aload_n 0, 1) := by decide +kernel
theorem dX0_isBetterPost_1 : decode cX0_isBetterPost 1 = .ok (.iload_n 1, 1) := by decide +kernel
theorem dX0_isBetterPost_2 : decode cX0_isBetterPost 2 = .ok (.iload_n 2, 1) := by decide +kernel
theorem dX0_isBetterPost_3 : decode cX0_isBetterPost 3 = .ok (.invokevirtual 113, 3) := by decide +kernel
theorem dX0_isBetterPost_6 : decode cX0_isBetterPost 6 = .ok (.aload_n 0, 1) := by decide +kernel
theorem dX0_isBetterPost_7 : decode cX0_isBetterPost 7 = .ok (.getfield 14, 3) := by decide +kernel
theorem dX0_isBetterPost_10 : decode cX0_isBetterPost 10 = .ok (.iload_n 1, 1) := by decide +kernel
theorem dX0_isBetterPost_11 : decode cX0_isBetterPost 11 = .ok (.invokevirtual 72, 3) := by decide +kernel
theorem dX0_isBetterPost_14 : decode cX0_isBetterPost 14 = .ok (.isub, 1) := by decide +kernel
theorem dX0_isBetterPost_15 : decode cX0_isBetterPost 15 = .ok (.invokestatic 75, 3) := by decide +kernel
theorem dX0_isBetterPost_18 : decode cX0_isBetterPost 18 = .ok (.istore 4, 2) := by decide +kernel
theorem dX0_isBetterPost_20 : decode cX0_isBetterPost 20 = .ok (.aload_n 0, 1) := by decide +kernel
theorem dX0_isBetterPost_21 : decode cX0_isBetterPost 21 = .ok (.iload_n 1, 1) := by decide +kernel
theorem dX0_isBetterPost_22 : decode cX0_isBetterPost 22 = .ok (.iload_n 3, 1) := by decide +kernel
theorem dX0_isBetterPost_23 : decode cX0_isBetterPost 23 = .ok (.invokevirtual 113, 3) := by decide +kernel
theorem dX0_isBetterPost_26 : decode cX0_isBetterPost 26 = .ok (.aload_n 0, 1) := by decide +kernel
theorem dX0_isBetterPost_27 : decode cX0_isBetterPost 27 = .ok (.getfield 14, 3) := by decide +kernel
theorem dX0_isBetterPost_30 : decode cX0_isBetterPost 30 = .ok (.iload_n 1, 1) := by decide +kernel
theorem dX0_isBetterPost_31 : decode cX0_isBetterPost 31 = .ok (.invokevirtual 72, 3) := by decide +kernel
theorem dX0_isBetterPost_34 : decode cX0_isBetterPost 34 = .ok (.isub, 1) := by decide +kernel
theorem dX0_isBetterPost_35 : decode cX0_isBetterPost 35 = .ok (.invokestatic 75, 3) := by decide +kernel
theorem dX0_isBetterPost_38 : decode cX0_isBetterPost 38 = .ok (.istore 5, 2) := by decide +kernel
theorem dX0_isBetterPost_40 : decode cX0_isBetterPost 40 = .ok (.iload 4, 2) := by decide +kernel
theorem dX0_isBetterPost_42 : decode cX0_isBetterPost 42 = .ok (.iload 5, 2) := by decide +kernel
theorem dX0_isBetterPost_44 : decode cX0_isBetterPost 44 = .ok (.if_icmp .eq 16, 3) := by decide +kernel
theorem dX0_isBetterPost_47 : decode cX0_isBetterPost 47 = .ok (.iload 4, 2) := by decide +kernel
theorem dX0_isBetterPost_49 : decode cX0_isBetterPost 49 = .ok (.iload 5, 2) := by decide +kernel
theorem dX0_isBetterPost_51 : decode cX0_isBetterPost 51 = .ok (.if_icmp .ge 7, 3) := by decide +kernel
theorem dX0_isBetterPost_54 : decode cX0_isBetterPost 54 = .ok (.iconst 1, 1) := by decide +kernel
theorem dX0_isBetterPost_55 : decode cX0_isBetterPost 55 = .ok (.goto 4, 3) := by decide +kernel
theorem dX0_isBetterPost_58 : decode cX0_isBetterPost 58 = .ok (.iconst 0, 1) := by decide +kernel
theorem dX0_isBetterPost_59 : decode cX0_isBetterPost 59 = .ok (.ireturn, 1) := by decide +kernel
theorem dX0_isBetterPost_60 : decode cX0_isBetterPost 60 = .ok (.aload_n 0, 1) := by decide +kernel
theorem dX0_isBetterPost_61 : decode cX0_isBetterPost 61 = .ok (.getfield 23, 3) := by decide +kernel
theorem dX0_isBetterPost_64 : decode cX0_isBetterPost 64 = .ok (.iload_n 2, 1) := by decide +kernel
theorem dX0_isBetterPost_65 : decode cX0_isBetterPost 65 = .ok (.invokevirtual 72, 3) := by decide +kernel
theorem dX0_isBetterPost_68 : decode cX0_isBetterPost 68 = .ok (.aload_n 0, 1) := by decide +kernel
theorem dX0_isBetterPost_69 : decode cX0_isBetterPost 69 = .ok (.getfield 23, 3) := by decide +kernel
theorem dX0_isBetterPost_72 : decode cX0_isBetterPost 72 = .ok (.iload_n 3, 1) := by decide +kernel
theorem dX0_isBetterPost_73 : decode cX0_isBetterPost 73 = .ok (.invokevirtual 72, 3) := by decide +kernel
theorem dX0_isBetterPost_76 : decode cX0_isBetterPost 76 = .ok (.if_icmp .le 7, 3) := by decide +kernel
theorem dX0_isBetterPost_79 : decode cX0_isBetterPost 79 = .ok (.iconst 1, 1) := by decide +kernel
theorem dX0_isBetterPost_80 : decode cX0_isBetterPost 80 = .ok (.goto 4, 3) := by decide +kernel
theorem dX0_isBetterPost_83 : decode cX0_isBetterPost 83 = .ok (.iconst 0, 1) := by decide +kernel
theorem dX0_isBetterPost_84 : decode cX0_isBetterPost 84 = .ok (.ireturn, 1) := by decide +kernel
theorem dX0_hoursUntilClear_0 : decode cX0_hoursUntilClear 0 = .ok (.iconst 0, 1) := by decide +kernel
theorem dX0_hoursUntilClear_1 : decode cX0_hoursUntilClear 1 = .ok (.istore_n 3, 1) := by decide +kernel
theorem dX0_hoursUntilClear_2 : decode cX0_hoursUntilClear 2 = .ok (.iload_n 3, 1) := by decide +kernel
theorem dX0_hoursUntilClear_3 : decode cX0_hoursUntilClear 3 = .ok (.bipush 24, 2) := by decide +kernel
theorem dX0_hoursUntilClear_5 : decode cX0_hoursUntilClear 5 = .ok (.if_icmp .ge 30, 3) := by decide +kernel
theorem dX0_hoursUntilClear_8 : decode cX0_hoursUntilClear 8 = .ok (.aload_n 0, 1) := by decide +kernel
theorem dX0_hoursUntilClear_9 : decode cX0_hoursUntilClear 9 = .ok (.iload_n 1, 1) := by decide +kernel
theorem dX0_hoursUntilClear_10 : decode cX0_hoursUntilClear 10 = .ok (.iload_n 2, 1) := by decide +kernel
theorem dX0_hoursUntilClear_11 : decode cX0_hoursUntilClear 11 = .ok (.aload_n 0, 1) := by decide +kernel
theorem dX0_hoursUntilClear_12 : decode cX0_hoursUntilClear 12 = .ok (.aload_n 0, 1) := by decide +kernel
theorem dX0_hoursUntilClear_13 : decode cX0_hoursUntilClear 13 = .ok (.getfield 45, 3) := by decide +kernel
theorem dX0_hoursUntilClear_16 : decode cX0_hoursUntilClear 16 = .ok (.iload_n 3, 1) := by decide +kernel
theorem dX0_hoursUntilClear_17 : decode cX0_hoursUntilClear 17 = .ok (.iadd, 1) := by decide +kernel
theorem dX0_hoursUntilClear_18 : decode cX0_hoursUntilClear 18 = .ok (.invokevirtual 65, 3) := by decide +kernel
theorem dX0_hoursUntilClear_21 : decode cX0_hoursUntilClear 21 = .ok (.invokevirtual 107, 3) := by decide +kernel
theorem dX0_hoursUntilClear_24 : decode cX0_hoursUntilClear 24 = .ok (.ifCond .ne 5, 3) := by decide +kernel
theorem dX0_hoursUntilClear_27 : decode cX0_hoursUntilClear 27 = .ok (.iload_n 3, 1) := by decide +kernel
theorem dX0_hoursUntilClear_28 : decode cX0_hoursUntilClear 28 = .ok (.ireturn, 1) := by decide +kernel
theorem dX0_hoursUntilClear_29 : decode cX0_hoursUntilClear 29 = .ok (.iinc 3 1, 3) := by decide +kernel
theorem dX0_hoursUntilClear_32 : decode cX0_hoursUntilClear 32 = .ok (.goto (-30), 3) := by decide +kernel
theorem dX0_hoursUntilClear_35 : decode cX0_hoursUntilClear 35 = .ok (.iconst (-1), 1) := by decide +kernel
theorem dX0_hoursUntilClear_36 : decode cX0_hoursUntilClear 36 = .ok (.ireturn, 1) := by decide +kernel
theorem dX0_hasSheet_0 : decode cX0_hasSheet 0 = .ok (.iload_n 1, 1) := by decide +kernel
theorem dX0_hasSheet_1 : decode cX0_hasSheet 1 = .ok (.ifCond .lt 15, 3) := by decide +kernel
theorem dX0_hasSheet_4 : decode cX0_hasSheet 4 = .ok (.iload_n 1, 1) := by decide +kernel
theorem dX0_hasSheet_5 : decode cX0_hasSheet 5 = .ok (.aload_n 0, 1) := by decide +kernel
theorem dX0_hasSheet_6 : decode cX0_hasSheet 6 = .ok (.getfield 41, 3) := by decide +kernel
theorem dX0_hasSheet_9 : decode cX0_hasSheet 9 = .ok (.if_icmp .ge 7, 3) := by decide +kernel
theorem dX0_hasSheet_12 : decode cX0_hasSheet 12 = .ok (.iconst 1, 1) := by decide +kernel
theorem dX0_hasSheet_13 : decode cX0_hasSheet 13 = .ok (.goto 4, 3) := by decide +kernel
theorem dX0_hasSheet_16 : decode cX0_hasSheet 16 = .ok (.iconst 0, 1) := by decide +kernel
theorem dX0_hasSheet_17 : decode cX0_hasSheet 17 = .ok (.ireturn, 1) := by decide +kernel
theorem dX0_drawnPlace_0 : decode cX0_drawnPlace 0 = .ok (.aload_n 0, 1) := by decide +kernel
theorem dX0_drawnPlace_1 : decode cX0_drawnPlace 1 = .ok (.getfield 26, 3) := by decide +kernel
theorem dX0_drawnPlace_4 : decode cX0_drawnPlace 4 = .ok (.iload_n 2, 1) := by decide +kernel
theorem dX0_drawnPlace_5 : decode cX0_drawnPlace 5 = .ok (.bipush 10, 2) := by decide +kernel
theorem dX0_drawnPlace_7 : decode cX0_drawnPlace 7 = .ok (.imul, 1) := by decide +kernel
theorem dX0_drawnPlace_8 : decode cX0_drawnPlace 8 = .ok (.iload_n 1, 1) := by decide +kernel
theorem dX0_drawnPlace_9 : decode cX0_drawnPlace 9 = .ok (.iadd, 1) := by decide +kernel
theorem dX0_drawnPlace_10 : decode cX0_drawnPlace 10 = .ok (.invokevirtual 72, 3) := by decide +kernel
theorem dX0_drawnPlace_13 : decode cX0_drawnPlace 13 = .ok (.ireturn, 1) := by decide +kernel
theorem dX0_draw_0 : decode cX0_draw 0 = .ok (.aload_n 0, 1) := by decide +kernel
theorem dX0_draw_1 : decode cX0_draw 1 = .ok (.getfield 26, 3) := by decide +kernel
theorem dX0_draw_4 : decode cX0_draw 4 = .ok (.iload_n 2, 1) := by decide +kernel
theorem dX0_draw_5 : decode cX0_draw 5 = .ok (.bipush 10, 2) := by decide +kernel
theorem dX0_draw_7 : decode cX0_draw 7 = .ok (.imul, 1) := by decide +kernel
theorem dX0_draw_8 : decode cX0_draw 8 = .ok (.iload_n 1, 1) := by decide +kernel
theorem dX0_draw_9 : decode cX0_draw 9 = .ok (.iadd, 1) := by decide +kernel
theorem dX0_draw_10 : decode cX0_draw 10 = .ok (.iload_n 3, 1) := by decide +kernel
theorem dX0_draw_11 : decode cX0_draw 11 = .ok (.invokevirtual 116, 3) := by decide +kernel
theorem dX0_draw_14 : decode cX0_draw 14 = .ok (.return_, 1) := by decide +kernel
theorem dX0_countDrawn_0 : decode cX0_countDrawn 0 = .ok (.iconst 0, 1) := by decide +kernel
theorem dX0_countDrawn_1 : decode cX0_countDrawn 1 = .ok (.istore_n 2, 1) := by decide +kernel
theorem dX0_countDrawn_2 : decode cX0_countDrawn 2 = .ok (.iconst 0, 1) := by decide +kernel
theorem dX0_countDrawn_3 : decode cX0_countDrawn 3 = .ok (.istore_n 3, 1) := by decide +kernel
theorem dX0_countDrawn_4 : decode cX0_countDrawn 4 = .ok (.iload_n 3, 1) := by decide +kernel
theorem dX0_countDrawn_5 : decode cX0_countDrawn 5 = .ok (.aload_n 0, 1) := by decide +kernel
theorem dX0_countDrawn_6 : decode cX0_countDrawn 6 = .ok (.getfield 26, 3) := by decide +kernel
theorem dX0_countDrawn_9 : decode cX0_countDrawn 9 = .ok (.invokevirtual 104, 3) := by decide +kernel
theorem dX0_countDrawn_12 : decode cX0_countDrawn 12 = .ok (.if_icmp .ge 60, 3) := by decide +kernel
theorem dX0_countDrawn_15 : decode cX0_countDrawn 15 = .ok (.aload_n 0, 1) := by decide +kernel
theorem dX0_countDrawn_16 : decode cX0_countDrawn 16 = .ok (.getfield 26, 3) := by decide +kernel
theorem dX0_countDrawn_19 : decode cX0_countDrawn 19 = .ok (.iload_n 3, 1) := by decide +kernel
theorem dX0_countDrawn_20 : decode cX0_countDrawn 20 = .ok (.invokevirtual 72, 3) := by decide +kernel
theorem dX0_countDrawn_23 : decode cX0_countDrawn 23 = .ok (.istore 4, 2) := by decide +kernel
theorem dX0_countDrawn_25 : decode cX0_countDrawn 25 = .ok (.iload 4, 2) := by decide +kernel
theorem dX0_countDrawn_27 : decode cX0_countDrawn 27 = .ok (.aload_n 0, 1) := by decide +kernel
theorem dX0_countDrawn_28 : decode cX0_countDrawn 28 = .ok (.getfield 14, 3) := by decide +kernel
theorem dX0_countDrawn_31 : decode cX0_countDrawn 31 = .ok (.iload_n 3, 1) := by decide +kernel
theorem dX0_countDrawn_32 : decode cX0_countDrawn 32 = .ok (.bipush 10, 2) := by decide +kernel
theorem dX0_countDrawn_34 : decode cX0_countDrawn 34 = .ok (.irem, 1) := by decide +kernel
theorem dX0_countDrawn_35 : decode cX0_countDrawn 35 = .ok (.invokevirtual 72, 3) := by decide +kernel
theorem dX0_countDrawn_38 : decode cX0_countDrawn 38 = .ok (.if_icmp .ne 7, 3) := by decide +kernel
theorem dX0_countDrawn_41 : decode cX0_countDrawn 41 = .ok (.iconst 1, 1) := by decide +kernel
theorem dX0_countDrawn_42 : decode cX0_countDrawn 42 = .ok (.goto 4, 3) := by decide +kernel
theorem dX0_countDrawn_45 : decode cX0_countDrawn 45 = .ok (.iconst 0, 1) := by decide +kernel
theorem dX0_countDrawn_46 : decode cX0_countDrawn 46 = .ok (.istore 5, 2) := by decide +kernel
theorem dX0_countDrawn_48 : decode cX0_countDrawn 48 = .ok (.iload 4, 2) := by decide +kernel
theorem dX0_countDrawn_50 : decode cX0_countDrawn 50 = .ok (.iconst (-1), 1) := by decide +kernel
theorem dX0_countDrawn_51 : decode cX0_countDrawn 51 = .ok (.if_icmp .eq 15, 3) := by decide +kernel
theorem dX0_countDrawn_54 : decode cX0_countDrawn 54 = .ok (.iload 5, 2) := by decide +kernel
theorem dX0_countDrawn_56 : decode cX0_countDrawn 56 = .ok (.ifCond .ne 7, 3) := by decide +kernel
theorem dX0_countDrawn_59 : decode cX0_countDrawn 59 = .ok (.iload_n 1, 1) := by decide +kernel
theorem dX0_countDrawn_60 : decode cX0_countDrawn 60 = .ok (.ifCond .ne 6, 3) := by decide +kernel
theorem dX0_countDrawn_63 : decode cX0_countDrawn 63 = .ok (.iinc 2 1, 3) := by decide +kernel
theorem dX0_countDrawn_66 : decode cX0_countDrawn 66 = .ok (.iinc 3 1, 3) := by decide +kernel
theorem dX0_countDrawn_69 : decode cX0_countDrawn 69 = .ok (.goto (-65), 3) := by decide +kernel
theorem dX0_countDrawn_72 : decode cX0_countDrawn 72 = .ok (.iload_n 2, 1) := by decide +kernel
theorem dX0_countDrawn_73 : decode cX0_countDrawn 73 = .ok (.ireturn, 1) := by decide +kernel
theorem dX0_isLost_0 : decode cX0_isLost 0 = .ok (.aload_n 0, 1) := by decide +kernel
theorem dX0_isLost_1 : decode cX0_isLost 1 = .ok (.getfield 32, 3) := by decide +kernel
theorem dX0_isLost_4 : decode cX0_isLost 4 = .ok (.iload_n 1, 1) := by decide +kernel
theorem dX0_isLost_5 : decode cX0_isLost 5 = .ok (.invokevirtual 72, 3) := by decide +kernel
theorem dX0_isLost_8 : decode cX0_isLost 8 = .ok (.bipush 20, 2) := by decide +kernel
theorem dX0_isLost_10 : decode cX0_isLost 10 = .ok (.if_icmp .lt 7, 3) := by decide +kernel
theorem dX0_isLost_13 : decode cX0_isLost 13 = .ok (.iconst 1, 1) := by decide +kernel
theorem dX0_isLost_14 : decode cX0_isLost 14 = .ok (.goto 4, 3) := by decide +kernel
theorem dX0_isLost_17 : decode cX0_isLost 17 = .ok (.iconst 0, 1) := by decide +kernel
theorem dX0_isLost_18 : decode cX0_isLost 18 = .ok (.ireturn, 1) := by decide +kernel
theorem dX0_isRoaming_0 : decode cX0_isRoaming 0 = .ok (.aload_n 0, 1) := by decide +kernel
theorem dX0_isRoaming_1 : decode cX0_isRoaming 1 = .ok (.getfield 35, 3) := by decide +kernel
theorem dX0_isRoaming_4 : decode cX0_isRoaming 4 = .ok (.iload_n 1, 1) := by decide +kernel
theorem dX0_isRoaming_5 : decode cX0_isRoaming 5 = .ok (.invokevirtual 72, 3) := by decide +kernel
theorem dX0_isRoaming_8 : decode cX0_isRoaming 8 = .ok (.ifCond .ne 15, 3) := by decide +kernel
theorem dX0_isRoaming_11 : decode cX0_isRoaming 11 = .ok (.aload_n 0, 1) := by decide +kernel
theorem dX0_isRoaming_12 : decode cX0_isRoaming 12 = .ok (.iload_n 1, 1) := by decide +kernel
theorem dX0_isRoaming_13 : decode cX0_isRoaming 13 = .ok (.invokevirtual 120, 3) := by decide +kernel
theorem dX0_isRoaming_16 : decode cX0_isRoaming 16 = .ok (.ifCond .ne 7, 3) := by decide +kernel
theorem dX0_isRoaming_19 : decode cX0_isRoaming 19 = .ok (.iconst 1, 1) := by decide +kernel
theorem dX0_isRoaming_20 : decode cX0_isRoaming 20 = .ok (.goto 4, 3) := by decide +kernel
theorem dX0_isRoaming_23 : decode cX0_isRoaming 23 = .ok (.iconst 0, 1) := by decide +kernel
theorem dX0_isRoaming_24 : decode cX0_isRoaming 24 = .ok (.ireturn, 1) := by decide +kernel
theorem dX0_countLost_0 : decode cX0_countLost 0 = .ok (.iconst 0, 1) := by decide +kernel
theorem dX0_countLost_1 : decode cX0_countLost 1 = .ok (.istore_n 1, 1) := by decide +kernel
theorem dX0_countLost_2 : decode cX0_countLost 2 = .ok (.iconst 0, 1) := by decide +kernel
theorem dX0_countLost_3 : decode cX0_countLost 3 = .ok (.istore_n 2, 1) := by decide +kernel
theorem dX0_countLost_4 : decode cX0_countLost 4 = .ok (.iload_n 2, 1) := by decide +kernel
theorem dX0_countLost_5 : decode cX0_countLost 5 = .ok (.aload_n 0, 1) := by decide +kernel
theorem dX0_countLost_6 : decode cX0_countLost 6 = .ok (.getfield 29, 3) := by decide +kernel
theorem dX0_countLost_9 : decode cX0_countLost 9 = .ok (.invokevirtual 104, 3) := by decide +kernel
theorem dX0_countLost_12 : decode cX0_countLost 12 = .ok (.if_icmp .ge 25, 3) := by decide +kernel
theorem dX0_countLost_15 : decode cX0_countLost 15 = .ok (.iload_n 1, 1) := by decide +kernel
theorem dX0_countLost_16 : decode cX0_countLost 16 = .ok (.aload_n 0, 1) := by decide +kernel
theorem dX0_countLost_17 : decode cX0_countLost 17 = .ok (.iload_n 2, 1) := by decide +kernel
theorem dX0_countLost_18 : decode cX0_countLost 18 = .ok (.invokevirtual 120, 3) := by decide +kernel
theorem dX0_countLost_21 : decode cX0_countLost 21 = .ok (.ifCond .eq 7, 3) := by decide +kernel
theorem dX0_countLost_24 : decode cX0_countLost 24 = .ok (.iconst 1, 1) := by decide +kernel
theorem dX0_countLost_25 : decode cX0_countLost 25 = .ok (.goto 4, 3) := by decide +kernel
theorem dX0_countLost_28 : decode cX0_countLost 28 = .ok (.iconst 0, 1) := by decide +kernel
theorem dX0_countLost_29 : decode cX0_countLost 29 = .ok (.iadd, 1) := by decide +kernel
theorem dX0_countLost_30 : decode cX0_countLost 30 = .ok (.istore_n 1, 1) := by decide +kernel
theorem dX0_countLost_31 : decode cX0_countLost 31 = .ok (.iinc 2 1, 3) := by decide +kernel
theorem dX0_countLost_34 : decode cX0_countLost 34 = .ok (.goto (-30), 3) := by decide +kernel
theorem dX0_countLost_37 : decode cX0_countLost 37 = .ok (.iload_n 1, 1) := by decide +kernel
theorem dX0_countLost_38 : decode cX0_countLost 38 = .ok (.ireturn, 1) := by decide +kernel
theorem dX0_callCamel_0 : decode cX0_callCamel 0 = .ok (.aload_n 0, 1) := by decide +kernel
theorem dX0_callCamel_1 : decode cX0_callCamel 1 = .ok (.getfield 29, 3) := by decide +kernel
theorem dX0_callCamel_4 : decode cX0_callCamel 4 = .ok (.iload_n 1, 1) := by decide +kernel
theorem dX0_callCamel_5 : decode cX0_callCamel 5 = .ok (.invokevirtual 72, 3) := by decide +kernel
theorem dX0_callCamel_8 : decode cX0_callCamel 8 = .ok (.istore_n 3, 1) := by decide +kernel
theorem dX0_callCamel_9 : decode cX0_callCamel 9 = .ok (.iload_n 2, 1) := by decide +kernel
theorem dX0_callCamel_10 : decode cX0_callCamel 10 = .ok (.iload_n 3, 1) := by decide +kernel
theorem dX0_callCamel_11 : decode cX0_callCamel 11 = .ok (.isub, 1) := by decide +kernel
theorem dX0_callCamel_12 : decode cX0_callCamel 12 = .ok (.invokestatic 75, 3) := by decide +kernel
theorem dX0_callCamel_15 : decode cX0_callCamel 15 = .ok (.istore 4, 2) := by decide +kernel
theorem dX0_callCamel_17 : decode cX0_callCamel 17 = .ok (.aload_n 0, 1) := by decide +kernel
theorem dX0_callCamel_18 : decode cX0_callCamel 18 = .ok (.iload_n 1, 1) := by decide +kernel
theorem dX0_callCamel_19 : decode cX0_callCamel 19 = .ok (.invokevirtual 123, 3) := by decide +kernel
theorem dX0_callCamel_22 : decode cX0_callCamel 22 = .ok (.ifCond .eq 35, 3) := by decide +kernel
theorem dX0_callCamel_25 : decode cX0_callCamel 25 = .ok (.iload 4, 2) := by decide +kernel
theorem dX0_callCamel_27 : decode cX0_callCamel 27 = .ok (.aload_n 0, 1) := by decide +kernel
theorem dX0_callCamel_28 : decode cX0_callCamel 28 = .ok (.invokevirtual 126, 3) := by decide +kernel
theorem dX0_callCamel_31 : decode cX0_callCamel 31 = .ok (.if_icmp .gt 26, 3) := by decide +kernel
theorem dX0_callCamel_34 : decode cX0_callCamel 34 = .ok (.aload_n 0, 1) := by decide +kernel
theorem dX0_callCamel_35 : decode cX0_callCamel 35 = .ok (.getfield 29, 3) := by decide +kernel
theorem dX0_callCamel_38 : decode cX0_callCamel 38 = .ok (.iload_n 1, 1) := by decide +kernel
theorem dX0_callCamel_39 : decode cX0_callCamel 39 = .ok (.iload_n 3, 1) := by decide +kernel
theorem dX0_callCamel_40 : decode cX0_callCamel 40 = .ok (.iload_n 3, 1) := by decide +kernel
theorem dX0_callCamel_41 : decode cX0_callCamel 41 = .ok (.iload_n 2, 1) := by decide +kernel
theorem dX0_callCamel_42 : decode cX0_callCamel 42 = .ok (.invokestatic 88, 3) := by decide +kernel
theorem dX0_callCamel_45 : decode cX0_callCamel 45 = .ok (.iload 4, 2) := by decide +kernel
theorem dX0_callCamel_47 : decode cX0_callCamel 47 = .ok (.bipush 10, 2) := by decide +kernel
theorem dX0_callCamel_49 : decode cX0_callCamel 49 = .ok (.invokestatic 129, 3) := by decide +kernel
theorem dX0_callCamel_52 : decode cX0_callCamel 52 = .ok (.imul, 1) := by decide +kernel
theorem dX0_callCamel_53 : decode cX0_callCamel 53 = .ok (.iadd, 1) := by decide +kernel
theorem dX0_callCamel_54 : decode cX0_callCamel 54 = .ok (.invokevirtual 116, 3) := by decide +kernel
theorem dX0_callCamel_57 : decode cX0_callCamel 57 = .ok (.return_, 1) := by decide +kernel
theorem dX0_farToPost_0 : decode cX0_farToPost 0 = .ok (.iconst (-1), 1) := by decide +kernel
theorem dX0_farToPost_1 : decode cX0_farToPost 1 = .ok (.istore_n 2, 1) := by decide +kernel
theorem dX0_farToPost_2 : decode cX0_farToPost 2 = .ok (.iconst 0, 1) := by decide +kernel
theorem dX0_farToPost_3 : decode cX0_farToPost 3 = .ok (.istore_n 3, 1) := by decide +kernel
theorem dX0_farToPost_4 : decode cX0_farToPost 4 = .ok (.iload_n 3, 1) := by decide +kernel
theorem dX0_farToPost_5 : decode cX0_farToPost 5 = .ok (.aload_n 0, 1) := by decide +kernel
theorem dX0_farToPost_6 : decode cX0_farToPost 6 = .ok (.getfield 20, 3) := by decide +kernel
theorem dX0_farToPost_9 : decode cX0_farToPost 9 = .ok (.invokevirtual 104, 3) := by decide +kernel
theorem dX0_farToPost_12 : decode cX0_farToPost 12 = .ok (.if_icmp .ge 38, 3) := by decide +kernel
theorem dX0_farToPost_15 : decode cX0_farToPost 15 = .ok (.aload_n 0, 1) := by decide +kernel
theorem dX0_farToPost_16 : decode cX0_farToPost 16 = .ok (.getfield 20, 3) := by decide +kernel
theorem dX0_farToPost_19 : decode cX0_farToPost 19 = .ok (.iload_n 3, 1) := by decide +kernel
theorem dX0_farToPost_20 : decode cX0_farToPost 20 = .ok (.invokevirtual 72, 3) := by decide +kernel
theorem dX0_farToPost_23 : decode cX0_farToPost 23 = .ok (.iload_n 1, 1) := by decide +kernel
theorem dX0_farToPost_24 : decode cX0_farToPost 24 = .ok (.isub, 1) := by decide +kernel
theorem dX0_farToPost_25 : decode cX0_farToPost 25 = .ok (.invokestatic 75, 3) := by decide +kernel
theorem dX0_farToPost_28 : decode cX0_farToPost 28 = .ok (.istore 4, 2) := by decide +kernel
theorem dX0_farToPost_30 : decode cX0_farToPost 30 = .ok (.iload_n 2, 1) := by decide +kernel
theorem dX0_farToPost_31 : decode cX0_farToPost 31 = .ok (.iconst (-1), 1) := by decide +kernel
theorem dX0_farToPost_32 : decode cX0_farToPost 32 = .ok (.if_icmp .eq 9, 3) := by decide +kernel
theorem dX0_farToPost_35 : decode cX0_farToPost 35 = .ok (.iload 4, 2) := by decide +kernel
theorem dX0_farToPost_37 : decode cX0_farToPost 37 = .ok (.iload_n 2, 1) := by decide +kernel
theorem dX0_farToPost_38 : decode cX0_farToPost 38 = .ok (.if_icmp .ge 6, 3) := by decide +kernel
theorem dX0_farToPost_41 : decode cX0_farToPost 41 = .ok (.iload 4, 2) := by decide +kernel
theorem dX0_farToPost_43 : decode cX0_farToPost 43 = .ok (.istore_n 2, 1) := by decide +kernel
theorem dX0_farToPost_44 : decode cX0_farToPost 44 = .ok (.iinc 3 1, 3) := by decide +kernel
theorem dX0_farToPost_47 : decode cX0_farToPost 47 = .ok (.goto (-43), 3) := by decide +kernel
theorem dX0_farToPost_50 : decode cX0_farToPost 50 = .ok (.iload_n 2, 1) := by decide +kernel
theorem dX0_farToPost_51 : decode cX0_farToPost 51 = .ok (.ireturn, 1) := by decide +kernel
theorem dX0_nearestCamel_0 : decode cX0_nearestCamel 0 = .ok (.iconst (-1), 1) := by decide +kernel
theorem dX0_nearestCamel_1 : decode cX0_nearestCamel 1 = .ok (.istore_n 2, 1) := by decide +kernel
theorem dX0_nearestCamel_2 : decode cX0_nearestCamel 2 = .ok (.iconst 0, 1) := by decide +kernel
theorem dX0_nearestCamel_3 : decode cX0_nearestCamel 3 = .ok (.istore_n 3, 1) := by decide +kernel
theorem dX0_nearestCamel_4 : decode cX0_nearestCamel 4 = .ok (.iload_n 3, 1) := by decide +kernel
theorem dX0_nearestCamel_5 : decode cX0_nearestCamel 5 = .ok (.aload_n 0, 1) := by decide +kernel
theorem dX0_nearestCamel_6 : decode cX0_nearestCamel 6 = .ok (.getfield 29, 3) := by decide +kernel
theorem dX0_nearestCamel_9 : decode cX0_nearestCamel 9 = .ok (.invokevirtual 104, 3) := by decide +kernel
theorem dX0_nearestCamel_12 : decode cX0_nearestCamel 12 = .ok (.if_icmp .ge 26, 3) := by decide +kernel
theorem dX0_nearestCamel_15 : decode cX0_nearestCamel 15 = .ok (.iload_n 2, 1) := by decide +kernel
theorem dX0_nearestCamel_16 : decode cX0_nearestCamel 16 = .ok (.iconst (-1), 1) := by decide +kernel
theorem dX0_nearestCamel_17 : decode cX0_nearestCamel 17 = .ok (.if_icmp .eq 13, 3) := by decide +kernel
theorem dX0_nearestCamel_20 : decode cX0_nearestCamel 20 = .ok (.aload_n 0, 1) := by decide +kernel
theorem dX0_nearestCamel_21 : decode cX0_nearestCamel 21 = .ok (.iload_n 1, 1) := by decide +kernel
theorem dX0_nearestCamel_22 : decode cX0_nearestCamel 22 = .ok (.iload_n 3, 1) := by decide +kernel
theorem dX0_nearestCamel_23 : decode cX0_nearestCamel 23 = .ok (.iload_n 2, 1) := by decide +kernel
theorem dX0_nearestCamel_24 : decode cX0_nearestCamel 24 = .ok (.invokevirtual 132, 3) := by decide +kernel
theorem dX0_nearestCamel_27 : decode cX0_nearestCamel 27 = .ok (.ifCond .eq 5, 3) := by decide +kernel
theorem dX0_nearestCamel_30 : decode cX0_nearestCamel 30 = .ok (.iload_n 3, 1) := by decide +kernel
theorem dX0_nearestCamel_31 : decode cX0_nearestCamel 31 = .ok (.istore_n 2, 1) := by decide +kernel
theorem dX0_nearestCamel_32 : decode cX0_nearestCamel 32 = .ok (.iinc 3 1, 3) := by decide +kernel
theorem dX0_nearestCamel_35 : decode cX0_nearestCamel 35 = .ok (.goto (-31), 3) := by decide +kernel
theorem dX0_nearestCamel_38 : decode cX0_nearestCamel 38 = .ok (.iload_n 2, 1) := by decide +kernel
theorem dX0_nearestCamel_39 : decode cX0_nearestCamel 39 = .ok (.ireturn, 1) := by decide +kernel
theorem dX0_isNearer_0 : decode cX0_isNearer 0 = .ok (.aload_n 0, 1) := by decide +kernel
theorem dX0_isNearer_1 : decode cX0_isNearer 1 = .ok (.getfield 29, 3) := by decide +kernel
theorem dX0_isNearer_4 : decode cX0_isNearer 4 = .ok (.iload_n 2, 1) := by decide +kernel
theorem dX0_isNearer_5 : decode cX0_isNearer 5 = .ok (.invokevirtual 72, 3) := by decide +kernel
theorem dX0_isNearer_8 : decode cX0_isNearer 8 = .ok (.iload_n 1, 1) := by decide +kernel
theorem dX0_isNearer_9 : decode cX0_isNearer 9 = .ok (.isub, 1) := by decide +kernel
theorem dX0_isNearer_10 : decode cX0_isNearer 10 = .ok (.invokestatic 75, 3) := by decide +kernel
theorem dX0_isNearer_13 : decode cX0_isNearer 13 = .ok (.istore 4, 2) := by decide +kernel
theorem dX0_isNearer_15 : decode cX0_isNearer 15 = .ok (.aload_n 0, 1) := by decide +kernel
theorem dX0_isNearer_16 : decode cX0_isNearer 16 = .ok (.getfield 29, 3) := by decide +kernel
theorem dX0_isNearer_19 : decode cX0_isNearer 19 = .ok (.iload_n 3, 1) := by decide +kernel
theorem dX0_isNearer_20 : decode cX0_isNearer 20 = .ok (.invokevirtual 72, 3) := by decide +kernel
theorem dX0_isNearer_23 : decode cX0_isNearer 23 = .ok (.iload_n 1, 1) := by decide +kernel
theorem dX0_isNearer_24 : decode cX0_isNearer 24 = .ok (.isub, 1) := by decide +kernel
theorem dX0_isNearer_25 : decode cX0_isNearer 25 = .ok (.invokestatic 75, 3) := by decide +kernel
theorem dX0_isNearer_28 : decode cX0_isNearer 28 = .ok (.istore 5, 2) := by decide +kernel
theorem dX0_isNearer_30 : decode cX0_isNearer 30 = .ok (.iload 4, 2) := by decide +kernel
theorem dX0_isNearer_32 : decode cX0_isNearer 32 = .ok (.iload 5, 2) := by decide +kernel
theorem dX0_isNearer_34 : decode cX0_isNearer 34 = .ok (.if_icmp .eq 16, 3) := by decide +kernel
theorem dX0_isNearer_37 : decode cX0_isNearer 37 = .ok (.iload 4, 2) := by decide +kernel
theorem dX0_isNearer_39 : decode cX0_isNearer 39 = .ok (.iload 5, 2) := by decide +kernel
theorem dX0_isNearer_41 : decode cX0_isNearer 41 = .ok (.if_icmp .ge 7, 3) := by decide +kernel
theorem dX0_isNearer_44 : decode cX0_isNearer 44 = .ok (.iconst 1, 1) := by decide +kernel
theorem dX0_isNearer_45 : decode cX0_isNearer 45 = .ok (.goto 4, 3) := by decide +kernel
theorem dX0_isNearer_48 : decode cX0_isNearer 48 = .ok (.iconst 0, 1) := by decide +kernel
theorem dX0_isNearer_49 : decode cX0_isNearer 49 = .ok (.ireturn, 1) := by decide +kernel
theorem dX0_isNearer_50 : decode cX0_isNearer 50 = .ok (.aload_n 0, 1) := by decide +kernel
theorem dX0_isNearer_51 : decode cX0_isNearer 51 = .ok (.getfield 32, 3) := by decide +kernel
theorem dX0_isNearer_54 : decode cX0_isNearer 54 = .ok (.iload_n 2, 1) := by decide +kernel
theorem dX0_isNearer_55 : decode cX0_isNearer 55 = .ok (.invokevirtual 72, 3) := by decide +kernel
theorem dX0_isNearer_58 : decode cX0_isNearer 58 = .ok (.aload_n 0, 1) := by decide +kernel
theorem dX0_isNearer_59 : decode cX0_isNearer 59 = .ok (.getfield 32, 3) := by decide +kernel
theorem dX0_isNearer_62 : decode cX0_isNearer 62 = .ok (.iload_n 3, 1) := by decide +kernel
theorem dX0_isNearer_63 : decode cX0_isNearer 63 = .ok (.invokevirtual 72, 3) := by decide +kernel
theorem dX0_isNearer_66 : decode cX0_isNearer 66 = .ok (.if_icmp .le 7, 3) := by decide +kernel
theorem dX0_isNearer_69 : decode cX0_isNearer 69 = .ok (.iconst 1, 1) := by decide +kernel
theorem dX0_isNearer_70 : decode cX0_isNearer 70 = .ok (.goto 4, 3) := by decide +kernel
theorem dX0_isNearer_73 : decode cX0_isNearer 73 = .ok (.iconst 0, 1) := by decide +kernel
theorem dX0_isNearer_74 : decode cX0_isNearer 74 = .ok (.ireturn, 1) := by decide +kernel
theorem dX0_thirstAfter_0 : decode cX0_thirstAfter 0 = .ok (.bipush 20, 2) := by decide +kernel
theorem dX0_thirstAfter_2 : decode cX0_thirstAfter 2 = .ok (.iload_n 1, 1) := by decide +kernel
theorem dX0_thirstAfter_3 : decode cX0_thirstAfter 3 = .ok (.iload_n 2, 1) := by decide +kernel
theorem dX0_thirstAfter_4 : decode cX0_thirstAfter 4 = .ok (.iconst 4, 1) := by decide +kernel
theorem dX0_thirstAfter_5 : decode cX0_thirstAfter 5 = .ok (.idiv, 1) := by decide +kernel
theorem dX0_thirstAfter_6 : decode cX0_thirstAfter 6 = .ok (.iadd, 1) := by decide +kernel
theorem dX0_thirstAfter_7 : decode cX0_thirstAfter 7 = .ok (.invokestatic 129, 3) := by decide +kernel
theorem dX0_thirstAfter_10 : decode cX0_thirstAfter 10 = .ok (.ireturn, 1) := by decide +kernel
theorem dX0_hoursUntilLost_0 : decode cX0_hoursUntilLost 0 = .ok (.aload_n 0, 1) := by decide +kernel
theorem dX0_hoursUntilLost_1 : decode cX0_hoursUntilLost 1 = .ok (.getfield 32, 3) := by decide +kernel
theorem dX0_hoursUntilLost_4 : decode cX0_hoursUntilLost 4 = .ok (.iload_n 1, 1) := by decide +kernel
theorem dX0_hoursUntilLost_5 : decode cX0_hoursUntilLost 5 = .ok (.invokevirtual 72, 3) := by decide +kernel
theorem dX0_hoursUntilLost_8 : decode cX0_hoursUntilLost 8 = .ok (.istore_n 2, 1) := by decide +kernel
theorem dX0_hoursUntilLost_9 : decode cX0_hoursUntilLost 9 = .ok (.iconst 0, 1) := by decide +kernel
theorem dX0_hoursUntilLost_10 : decode cX0_hoursUntilLost 10 = .ok (.istore_n 3, 1) := by decide +kernel
theorem dX0_hoursUntilLost_11 : decode cX0_hoursUntilLost 11 = .ok (.iload_n 3, 1) := by decide +kernel
theorem dX0_hoursUntilLost_12 : decode cX0_hoursUntilLost 12 = .ok (.bipush 48, 2) := by decide +kernel
theorem dX0_hoursUntilLost_14 : decode cX0_hoursUntilLost 14 = .ok (.if_icmp .gt 33, 3) := by decide +kernel
theorem dX0_hoursUntilLost_17 : decode cX0_hoursUntilLost 17 = .ok (.iload_n 2, 1) := by decide +kernel
theorem dX0_hoursUntilLost_18 : decode cX0_hoursUntilLost 18 = .ok (.bipush 20, 2) := by decide +kernel
theorem dX0_hoursUntilLost_20 : decode cX0_hoursUntilLost 20 = .ok (.if_icmp .lt 5, 3) := by decide +kernel
theorem dX0_hoursUntilLost_23 : decode cX0_hoursUntilLost 23 = .ok (.iload_n 3, 1) := by decide +kernel
theorem dX0_hoursUntilLost_24 : decode cX0_hoursUntilLost 24 = .ok (.ireturn, 1) := by decide +kernel
theorem dX0_hoursUntilLost_25 : decode cX0_hoursUntilLost 25 = .ok (.aload_n 0, 1) := by decide +kernel
theorem dX0_hoursUntilLost_26 : decode cX0_hoursUntilLost 26 = .ok (.iload_n 2, 1) := by decide +kernel
theorem dX0_hoursUntilLost_27 : decode cX0_hoursUntilLost 27 = .ok (.aload_n 0, 1) := by decide +kernel
theorem dX0_hoursUntilLost_28 : decode cX0_hoursUntilLost 28 = .ok (.aload_n 0, 1) := by decide +kernel
theorem dX0_hoursUntilLost_29 : decode cX0_hoursUntilLost 29 = .ok (.getfield 45, 3) := by decide +kernel
theorem dX0_hoursUntilLost_32 : decode cX0_hoursUntilLost 32 = .ok (.iload_n 3, 1) := by decide +kernel
theorem dX0_hoursUntilLost_33 : decode cX0_hoursUntilLost 33 = .ok (.iadd, 1) := by decide +kernel
theorem dX0_hoursUntilLost_34 : decode cX0_hoursUntilLost 34 = .ok (.invokevirtual 65, 3) := by decide +kernel
theorem dX0_hoursUntilLost_37 : decode cX0_hoursUntilLost 37 = .ok (.invokevirtual 135, 3) := by decide +kernel
theorem dX0_hoursUntilLost_40 : decode cX0_hoursUntilLost 40 = .ok (.istore_n 2, 1) := by decide +kernel
theorem dX0_hoursUntilLost_41 : decode cX0_hoursUntilLost 41 = .ok (.iinc 3 1, 3) := by decide +kernel
theorem dX0_hoursUntilLost_44 : decode cX0_hoursUntilLost 44 = .ok (.goto (-33), 3) := by decide +kernel
theorem dX0_hoursUntilLost_47 : decode cX0_hoursUntilLost 47 = .ok (.iconst (-1), 1) := by decide +kernel
theorem dX0_hoursUntilLost_48 : decode cX0_hoursUntilLost 48 = .ok (.ireturn, 1) := by decide +kernel
theorem dX0_passHour_0 : decode cX0_passHour 0 = .ok (.aload_n 0, 1) := by decide +kernel
theorem dX0_passHour_1 : decode cX0_passHour 1 = .ok (.invokevirtual 68, 3) := by decide +kernel
theorem dX0_passHour_4 : decode cX0_passHour 4 = .ok (.istore_n 1, 1) := by decide +kernel
theorem dX0_passHour_5 : decode cX0_passHour 5 = .ok (.iconst 0, 1) := by decide +kernel
theorem dX0_passHour_6 : decode cX0_passHour 6 = .ok (.istore_n 2, 1) := by decide +kernel
theorem dX0_passHour_7 : decode cX0_passHour 7 = .ok (.iload_n 2, 1) := by decide +kernel
theorem dX0_passHour_8 : decode cX0_passHour 8 = .ok (.aload_n 0, 1) := by decide +kernel
theorem dX0_passHour_9 : decode cX0_passHour 9 = .ok (.getfield 29, 3) := by decide +kernel
theorem dX0_passHour_12 : decode cX0_passHour 12 = .ok (.invokevirtual 104, 3) := by decide +kernel
theorem dX0_passHour_15 : decode cX0_passHour 15 = .ok (.if_icmp .ge 49, 3) := by decide +kernel
theorem dX0_passHour_18 : decode cX0_passHour 18 = .ok (.aload_n 0, 1) := by decide +kernel
theorem dX0_passHour_19 : decode cX0_passHour 19 = .ok (.getfield 32, 3) := by decide +kernel
theorem dX0_passHour_22 : decode cX0_passHour 22 = .ok (.iload_n 2, 1) := by decide +kernel
theorem dX0_passHour_23 : decode cX0_passHour 23 = .ok (.aload_n 0, 1) := by decide +kernel
theorem dX0_passHour_24 : decode cX0_passHour 24 = .ok (.aload_n 0, 1) := by decide +kernel
theorem dX0_passHour_25 : decode cX0_passHour 25 = .ok (.getfield 32, 3) := by decide +kernel
theorem dX0_passHour_28 : decode cX0_passHour 28 = .ok (.iload_n 2, 1) := by decide +kernel
theorem dX0_passHour_29 : decode cX0_passHour 29 = .ok (.invokevirtual 72, 3) := by decide +kernel
theorem dX0_passHour_32 : decode cX0_passHour 32 = .ok (.iload_n 1, 1) := by decide +kernel
theorem dX0_passHour_33 : decode cX0_passHour 33 = .ok (.invokevirtual 135, 3) := by decide +kernel
theorem dX0_passHour_36 : decode cX0_passHour 36 = .ok (.invokevirtual 116, 3) := by decide +kernel
theorem dX0_passHour_39 : decode cX0_passHour 39 = .ok (.iload_n 1, 1) := by decide +kernel
theorem dX0_passHour_40 : decode cX0_passHour 40 = .ok (.bipush 6, 2) := by decide +kernel
theorem dX0_passHour_42 : decode cX0_passHour 42 = .ok (.if_icmp .lt 16, 3) := by decide +kernel
theorem dX0_passHour_45 : decode cX0_passHour 45 = .ok (.aload_n 0, 1) := by decide +kernel
theorem dX0_passHour_46 : decode cX0_passHour 46 = .ok (.iload_n 2, 1) := by decide +kernel
theorem dX0_passHour_47 : decode cX0_passHour 47 = .ok (.invokevirtual 123, 3) := by decide +kernel
theorem dX0_passHour_50 : decode cX0_passHour 50 = .ok (.ifCond .eq 8, 3) := by decide +kernel
theorem dX0_passHour_53 : decode cX0_passHour 53 = .ok (.aload_n 0, 1) := by decide +kernel
theorem dX0_passHour_54 : decode cX0_passHour 54 = .ok (.iload_n 2, 1) := by decide +kernel
theorem dX0_passHour_55 : decode cX0_passHour 55 = .ok (.invokevirtual 138, 3) := by decide +kernel
theorem dX0_passHour_58 : decode cX0_passHour 58 = .ok (.iinc 2 1, 3) := by decide +kernel
theorem dX0_passHour_61 : decode cX0_passHour 61 = .ok (.goto (-54), 3) := by decide +kernel
theorem dX0_passHour_64 : decode cX0_passHour 64 = .ok (.aload_n 0, 1) := by decide +kernel
theorem dX0_passHour_65 : decode cX0_passHour 65 = .ok (.dup, 1) := by decide +kernel
theorem dX0_passHour_66 : decode cX0_passHour 66 = .ok (.getfield 45, 3) := by decide +kernel
theorem dX0_passHour_69 : decode cX0_passHour 69 = .ok (.iconst 1, 1) := by decide +kernel
theorem dX0_passHour_70 : decode cX0_passHour 70 = .ok (.iadd, 1) := by decide +kernel
theorem dX0_passHour_71 : decode cX0_passHour 71 = .ok (.putfield 45, 3) := by decide +kernel
theorem dX0_passHour_74 : decode cX0_passHour 74 = .ok (.return_, 1) := by decide +kernel
theorem dX0_stray_0 : decode cX0_stray 0 = .ok (.aload_n 0, 1) := by decide +kernel
theorem dX0_stray_1 : decode cX0_stray 1 = .ok (.getfield 29, 3) := by decide +kernel
theorem dX0_stray_4 : decode cX0_stray 4 = .ok (.iload_n 1, 1) := by decide +kernel
theorem dX0_stray_5 : decode cX0_stray 5 = .ok (.aload_n 0, 1) := by decide +kernel
theorem dX0_stray_6 : decode cX0_stray 6 = .ok (.getfield 29, 3) := by decide +kernel
theorem dX0_stray_9 : decode cX0_stray 9 = .ok (.iload_n 1, 1) := by decide +kernel
theorem dX0_stray_10 : decode cX0_stray 10 = .ok (.invokevirtual 72, 3) := by decide +kernel
theorem dX0_stray_13 : decode cX0_stray 13 = .ok (.iload_n 1, 1) := by decide +kernel
theorem dX0_stray_14 : decode cX0_stray 14 = .ok (.iconst 2, 1) := by decide +kernel
theorem dX0_stray_15 : decode cX0_stray 15 = .ok (.irem, 1) := by decide +kernel
theorem dX0_stray_16 : decode cX0_stray 16 = .ok (.ifCond .ne 7, 3) := by decide +kernel
theorem dX0_stray_19 : decode cX0_stray 19 = .ok (.iconst 3, 1) := by decide +kernel
theorem dX0_stray_20 : decode cX0_stray 20 = .ok (.goto 5, 3) := by decide +kernel
theorem dX0_stray_23 : decode cX0_stray 23 = .ok (.bipush (-3), 2) := by decide +kernel
theorem dX0_stray_25 : decode cX0_stray 25 = .ok (.iadd, 1) := by decide +kernel
theorem dX0_stray_26 : decode cX0_stray 26 = .ok (.invokestatic 97, 3) := by decide +kernel
theorem dX0_stray_29 : decode cX0_stray 29 = .ok (.invokevirtual 116, 3) := by decide +kernel
theorem dX0_stray_32 : decode cX0_stray 32 = .ok (.return_, 1) := by decide +kernel
theorem dX1_init_0 : decode cX1_init 0 = .ok (.aload_n 0, 1) := by decide +kernel
theorem dX1_init_1 : decode cX1_init 1 = .ok (.invokespecial 3, 3) := by decide +kernel
theorem dX1_init_4 : decode cX1_init 4 = .ok (.aload_n 0, 1) := by decide +kernel
theorem dX1_init_5 : decode cX1_init 5 = .ok (.bipush 8, 2) := by decide +kernel
theorem dX1_init_7 : decode cX1_init 7 = .ok (.anewarray 9, 3) := by decide +kernel
theorem dX1_init_10 : decode cX1_init 10 = .ok (.putfield 11, 3) := by decide +kernel
theorem dX1_init_13 : decode cX1_init 13 = .ok (.aload_n 0, 1) := by decide +kernel
theorem dX1_init_14 : decode cX1_init 14 = .ok (.iconst 0, 1) := by decide +kernel
theorem dX1_init_15 : decode cX1_init 15 = .ok (.putfield 17, 3) := by decide +kernel
theorem dX1_init_18 : decode cX1_init 18 = .ok (.aload_n 0, 1) := by decide +kernel
theorem dX1_init_19 : decode cX1_init 19 = .ok (.iconst 0, 1) := by decide +kernel
theorem dX1_init_20 : decode cX1_init 20 = .ok (.putfield 21, 3) := by decide +kernel
theorem dX1_init_23 : decode cX1_init 23 = .ok (.iconst 0, 1) := by decide +kernel
theorem dX1_init_24 : decode cX1_init 24 = .ok (.istore_n 1, 1) := by decide +kernel
theorem dX1_init_25 : decode cX1_init 25 = .ok (.iload_n 1, 1) := by decide +kernel
theorem dX1_init_26 : decode cX1_init 26 = .ok (.aload_n 0, 1) := by decide +kernel
theorem dX1_init_27 : decode cX1_init 27 = .ok (.getfield 11, 3) := by decide +kernel
theorem dX1_init_30 : decode cX1_init 30 = .ok (.arraylength, 1) := by decide +kernel
theorem dX1_init_31 : decode cX1_init 31 = .ok (.if_icmp .ge 22, 3) := by decide +kernel
theorem dX1_init_34 : decode cX1_init 34 = .ok (.aload_n 0, 1) := by decide +kernel
theorem dX1_init_35 : decode cX1_init 35 = .ok (.getfield 11, 3) := by decide +kernel
theorem dX1_init_38 : decode cX1_init 38 = .ok (.iload_n 1, 1) := by decide +kernel
theorem dX1_init_39 : decode cX1_init 39 = .ok (.new 9, 3) := by decide +kernel
theorem dX1_init_42 : decode cX1_init 42 = .ok (.dup, 1) := by decide +kernel
theorem dX1_init_43 : decode cX1_init 43 = .ok (.invokespecial 24, 3) := by decide +kernel
theorem dX1_init_46 : decode cX1_init 46 = .ok (.aastore, 1) := by decide +kernel
theorem dX1_init_47 : decode cX1_init 47 = .ok (.iinc 1 1, 3) := by decide +kernel
theorem dX1_init_50 : decode cX1_init 50 = .ok (.goto (-25), 3) := by decide +kernel
theorem dX1_init_53 : decode cX1_init 53 = .ok (.return_, 1) := by decide +kernel
theorem dX1_size_0 : decode cX1_size 0 = .ok (.aload_n 0, 1) := by decide +kernel
theorem dX1_size_1 : decode cX1_size 1 = .ok (.getfield 17, 3) := by decide +kernel
theorem dX1_size_4 : decode cX1_size 4 = .ok (.ireturn, 1) := by decide +kernel
theorem dX1_slot_0 : decode cX1_slot 0 = .ok (.iload_n 1, 1) := by decide +kernel
theorem dX1_slot_1 : decode cX1_slot 1 = .ok (.ifCond .lt 21, 3) := by decide +kernel
theorem dX1_slot_4 : decode cX1_slot 4 = .ok (.iload_n 1, 1) := by decide +kernel
theorem dX1_slot_5 : decode cX1_slot 5 = .ok (.aload_n 0, 1) := by decide +kernel
theorem dX1_slot_6 : decode cX1_slot 6 = .ok (.getfield 11, 3) := by decide +kernel
theorem dX1_slot_9 : decode cX1_slot 9 = .ok (.arraylength, 1) := by decide +kernel
theorem dX1_slot_10 : decode cX1_slot 10 = .ok (.if_icmp .ge 12, 3) := by decide +kernel
theorem dX1_slot_13 : decode cX1_slot 13 = .ok (.aload_n 0, 1) := by decide +kernel
theorem dX1_slot_14 : decode cX1_slot 14 = .ok (.getfield 11, 3) := by decide +kernel
theorem dX1_slot_17 : decode cX1_slot 17 = .ok (.iload_n 1, 1) := by decide +kernel
theorem dX1_slot_18 : decode cX1_slot 18 = .ok (.aaload, 1) := by decide +kernel
theorem dX1_slot_19 : decode cX1_slot 19 = .ok (.goto 4, 3) := by decide +kernel
theorem dX1_slot_22 : decode cX1_slot 22 = .ok (.aconst_null, 1) := by decide +kernel
theorem dX1_slot_23 : decode cX1_slot 23 = .ok (.areturn, 1) := by decide +kernel
theorem dX1_keep_0 : decode cX1_keep 0 = .ok (.aload_n 0, 1) := by decide +kernel
theorem dX1_keep_1 : decode cX1_keep 1 = .ok (.aload_n 0, 1) := by decide +kernel
theorem dX1_keep_2 : decode cX1_keep 2 = .ok (.getfield 21, 3) := by decide +kernel
theorem dX1_keep_5 : decode cX1_keep 5 = .ok (.invokevirtual 25, 3) := by decide +kernel
theorem dX1_keep_8 : decode cX1_keep 8 = .ok (.astore_n 2, 1) := by decide +kernel
theorem dX1_keep_9 : decode cX1_keep 9 = .ok (.aload_n 2, 1) := by decide +kernel
theorem dX1_keep_10 : decode cX1_keep 10 = .ok (.ifnull 8, 3) := by decide +kernel
theorem dX1_keep_13 : decode cX1_keep 13 = .ok (.aload_n 2, 1) := by decide +kernel
theorem dX1_keep_14 : decode cX1_keep 14 = .ok (.aload_n 1, 1) := by decide +kernel
theorem dX1_keep_15 : decode cX1_keep 15 = .ok (.invokevirtual 29, 3) := by decide +kernel
theorem dX1_keep_18 : decode cX1_keep 18 = .ok (.aload_n 0, 1) := by decide +kernel
theorem dX1_keep_19 : decode cX1_keep 19 = .ok (.aload_n 0, 1) := by decide +kernel
theorem dX1_keep_20 : decode cX1_keep 20 = .ok (.getfield 21, 3) := by decide +kernel
theorem dX1_keep_23 : decode cX1_keep 23 = .ok (.iconst 1, 1) := by decide +kernel
theorem dX1_keep_24 : decode cX1_keep 24 = .ok (.iadd, 1) := by decide +kernel
theorem dX1_keep_25 : decode cX1_keep 25 = .ok (.bipush 8, 2) := by decide +kernel
theorem dX1_keep_27 : decode cX1_keep 27 = .ok (.if_icmp .ge 12, 3) := by decide +kernel
theorem dX1_keep_30 : decode cX1_keep 30 = .ok (.aload_n 0, 1) := by decide +kernel
theorem dX1_keep_31 : decode cX1_keep 31 = .ok (.getfield 21, 3) := by decide +kernel
theorem dX1_keep_34 : decode cX1_keep 34 = .ok (.iconst 1, 1) := by decide +kernel
theorem dX1_keep_35 : decode cX1_keep 35 = .ok (.iadd, 1) := by decide +kernel
theorem dX1_keep_36 : decode cX1_keep 36 = .ok (.goto 4, 3) := by decide +kernel
theorem dX1_keep_39 : decode cX1_keep 39 = .ok (.iconst 0, 1) := by decide +kernel
theorem dX1_keep_40 : decode cX1_keep 40 = .ok (.putfield 21, 3) := by decide +kernel
theorem dX1_keep_43 : decode cX1_keep 43 = .ok (.aload_n 0, 1) := by decide +kernel
theorem dX1_keep_44 : decode cX1_keep 44 = .ok (.bipush 8, 2) := by decide +kernel
theorem dX1_keep_46 : decode cX1_keep 46 = .ok (.aload_n 0, 1) := by decide +kernel
theorem dX1_keep_47 : decode cX1_keep 47 = .ok (.getfield 17, 3) := by decide +kernel
theorem dX1_keep_50 : decode cX1_keep 50 = .ok (.iconst 1, 1) := by decide +kernel
theorem dX1_keep_51 : decode cX1_keep 51 = .ok (.iadd, 1) := by decide +kernel
theorem dX1_keep_52 : decode cX1_keep 52 = .ok (.invokestatic 33, 3) := by decide +kernel
theorem dX1_keep_55 : decode cX1_keep 55 = .ok (.putfield 17, 3) := by decide +kernel
theorem dX1_keep_58 : decode cX1_keep 58 = .ok (.return_, 1) := by decide +kernel
theorem dX1_takeBack_0 : decode cX1_takeBack 0 = .ok (.aload_n 0, 1) := by decide +kernel
theorem dX1_takeBack_1 : decode cX1_takeBack 1 = .ok (.aload_n 0, 1) := by decide +kernel
theorem dX1_takeBack_2 : decode cX1_takeBack 2 = .ok (.getfield 21, 3) := by decide +kernel
theorem dX1_takeBack_5 : decode cX1_takeBack 5 = .ok (.ifCond .le 12, 3) := by decide +kernel
theorem dX1_takeBack_8 : decode cX1_takeBack 8 = .ok (.aload_n 0, 1) := by decide +kernel
theorem dX1_takeBack_9 : decode cX1_takeBack 9 = .ok (.getfield 21, 3) := by decide +kernel
theorem dX1_takeBack_12 : decode cX1_takeBack 12 = .ok (.iconst 1, 1) := by decide +kernel
theorem dX1_takeBack_13 : decode cX1_takeBack 13 = .ok (.isub, 1) := by decide +kernel
theorem dX1_takeBack_14 : decode cX1_takeBack 14 = .ok (.goto 5, 3) := by decide +kernel
theorem dX1_takeBack_17 : decode cX1_takeBack 17 = .ok (.bipush 7, 2) := by decide +kernel
theorem dX1_takeBack_19 : decode cX1_takeBack 19 = .ok (.putfield 21, 3) := by decide +kernel
theorem dX1_takeBack_22 : decode cX1_takeBack 22 = .ok (.aload_n 0, 1) := by decide +kernel
theorem dX1_takeBack_23 : decode cX1_takeBack 23 = .ok (.iconst 0, 1) := by decide +kernel
theorem dX1_takeBack_24 : decode cX1_takeBack 24 = .ok (.aload_n 0, 1) := by decide +kernel
theorem dX1_takeBack_25 : decode cX1_takeBack 25 = .ok (.getfield 17, 3) := by decide +kernel
theorem dX1_takeBack_28 : decode cX1_takeBack 28 = .ok (.iconst 1, 1) := by decide +kernel
theorem dX1_takeBack_29 : decode cX1_takeBack 29 = .ok (.isub, 1) := by decide +kernel
theorem dX1_takeBack_30 : decode cX1_takeBack 30 = .ok (.invokestatic 39, 3) := by decide +kernel
theorem dX1_takeBack_33 : decode cX1_takeBack 33 = .ok (.putfield 17, 3) := by decide +kernel
theorem dX1_takeBack_36 : decode cX1_takeBack 36 = .ok (.aload_n 0, 1) := by decide +kernel
theorem dX1_takeBack_37 : decode cX1_takeBack 37 = .ok (.aload_n 0, 1) := by decide +kernel
theorem dX1_takeBack_38 : decode cX1_takeBack 38 = .ok (.getfield 21, 3) := by decide +kernel
theorem dX1_takeBack_41 : decode cX1_takeBack 41 = .ok (.invokevirtual 25, 3) := by decide +kernel
theorem dX1_takeBack_44 : decode cX1_takeBack 44 = .ok (.astore_n 2, 1) := by decide +kernel
theorem dX1_takeBack_45 : decode cX1_takeBack 45 = .ok (.aload_n 2, 1) := by decide +kernel
theorem dX1_takeBack_46 : decode cX1_takeBack 46 = .ok (.ifnull 8, 3) := by decide +kernel
theorem dX1_takeBack_49 : decode cX1_takeBack 49 = .ok (.aload_n 1, 1) := by decide +kernel
theorem dX1_takeBack_50 : decode cX1_takeBack 50 = .ok (.aload_n 2, 1) := by decide +kernel
theorem dX1_takeBack_51 : decode cX1_takeBack 51 = .ok (.invokevirtual 29, 3) := by decide +kernel
theorem dX1_takeBack_54 : decode cX1_takeBack 54 = .ok (.return_, 1) := by decide +kernel
theorem dX1_forget_0 : decode cX1_forget 0 = .ok (.aload_n 0, 1) := by decide +kernel
theorem dX1_forget_1 : decode cX1_forget 1 = .ok (.iconst 0, 1) := by decide +kernel
theorem dX1_forget_2 : decode cX1_forget 2 = .ok (.putfield 17, 3) := by decide +kernel
theorem dX1_forget_5 : decode cX1_forget 5 = .ok (.return_, 1) := by decide +kernel
theorem dX2_init_0 : decode cX2_init 0 = .ok (.aload_n 0, 1) := by decide +kernel
theorem dX2_init_1 : decode cX2_init 1 = .ok (.invokespecial 3, 3) := by decide +kernel
theorem dX2_init_4 : decode cX2_init 4 = .ok (.aload_n 0, 1) := by decide +kernel
theorem dX2_init_5 : decode cX2_init 5 = .ok (.bipush 79, 2) := by decide +kernel
theorem dX2_init_7 : decode cX2_init 7 = .ok (.newarray .char, 2) := by decide +kernel
theorem dX2_init_9 : decode cX2_init 9 = .ok (.putfield 9, 3) := by decide +kernel
theorem dX2_init_12 : decode cX2_init 12 = .ok (.aload_n 0, 1) := by decide +kernel
theorem dX2_init_13 : decode cX2_init 13 = .ok (.iconst 0, 1) := by decide +kernel
theorem dX2_init_14 : decode cX2_init 14 = .ok (.putfield 15, 3) := by decide +kernel
theorem dX2_init_17 : decode cX2_init 17 = .ok (.return_, 1) := by decide +kernel
theorem dX2_length_0 : decode cX2_length 0 = .ok (.aload_n 0, 1) := by decide +kernel
theorem dX2_length_1 : decode cX2_length 1 = .ok (.getfield 15, 3) := by decide +kernel
theorem dX2_length_4 : decode cX2_length 4 = .ok (.ireturn, 1) := by decide +kernel
theorem dX2_signAt_0 : decode cX2_signAt 0 = .ok (.iload_n 1, 1) := by decide +kernel
theorem dX2_signAt_1 : decode cX2_signAt 1 = .ok (.ifCond .lt 29, 3) := by decide +kernel
theorem dX2_signAt_4 : decode cX2_signAt 4 = .ok (.iload_n 1, 1) := by decide +kernel
theorem dX2_signAt_5 : decode cX2_signAt 5 = .ok (.aload_n 0, 1) := by decide +kernel
theorem dX2_signAt_6 : decode cX2_signAt 6 = .ok (.getfield 15, 3) := by decide +kernel
theorem dX2_signAt_9 : decode cX2_signAt 9 = .ok (.if_icmp .ge 21, 3) := by decide +kernel
theorem dX2_signAt_12 : decode cX2_signAt 12 = .ok (.iload_n 1, 1) := by decide +kernel
theorem dX2_signAt_13 : decode cX2_signAt 13 = .ok (.aload_n 0, 1) := by decide +kernel
theorem dX2_signAt_14 : decode cX2_signAt 14 = .ok (.getfield 9, 3) := by decide +kernel
theorem dX2_signAt_17 : decode cX2_signAt 17 = .ok (.arraylength, 1) := by decide +kernel
theorem dX2_signAt_18 : decode cX2_signAt 18 = .ok (.if_icmp .ge 12, 3) := by decide +kernel
theorem dX2_signAt_21 : decode cX2_signAt 21 = .ok (.aload_n 0, 1) := by decide +kernel
theorem dX2_signAt_22 : decode cX2_signAt 22 = .ok (.getfield 9, 3) := by decide +kernel
theorem dX2_signAt_25 : decode cX2_signAt 25 = .ok (.iload_n 1, 1) := by decide +kernel
theorem dX2_signAt_26 : decode cX2_signAt 26 = .ok (.caload, 1) := by decide +kernel
theorem dX2_signAt_27 : decode cX2_signAt 27 = .ok (.goto 5, 3) := by decide +kernel
theorem dX2_signAt_30 : decode cX2_signAt 30 = .ok (.bipush 32, 2) := by decide +kernel
theorem dX2_signAt_32 : decode cX2_signAt 32 = .ok (.ireturn, 1) := by decide +kernel
theorem dX2_clear_0 : decode cX2_clear 0 = .ok (.aload_n 0, 1) := by decide +kernel
theorem dX2_clear_1 : decode cX2_clear 1 = .ok (.iconst 0, 1) := by decide +kernel
theorem dX2_clear_2 : decode cX2_clear 2 = .ok (.putfield 15, 3) := by decide +kernel
theorem dX2_clear_5 : decode cX2_clear 5 = .ok (.return_, 1) := by decide +kernel
theorem dX2_putStake_0 : decode cX2_putStake 0 = .ok (.aload_n 0, 1) := by decide +kernel
theorem dX2_putStake_1 : decode cX2_putStake 1 = .ok (.getfield 15, 3) := by decide +kernel
theorem dX2_putStake_4 : decode cX2_putStake 4 = .ok (.ifCond .le 9, 3) := by decide +kernel
theorem dX2_putStake_7 : decode cX2_putStake 7 = .ok (.aload_n 0, 1) := by decide +kernel
theorem dX2_putStake_8 : decode cX2_putStake 8 = .ok (.bipush 32, 2) := by decide +kernel
theorem dX2_putStake_10 : decode cX2_putStake 10 = .ok (.invokevirtual 19, 3) := by decide +kernel
theorem dX2_putStake_13 : decode cX2_putStake 13 = .ok (.aload_n 0, 1) := by decide +kernel
theorem dX2_putStake_14 : decode cX2_putStake 14 = .ok (.iload_n 1, 1) := by decide +kernel
theorem dX2_putStake_15 : decode cX2_putStake 15 = .ok (.invokevirtual 23, 3) := by decide +kernel
theorem dX2_putStake_18 : decode cX2_putStake 18 = .ok (.aload_n 0, 1) := by decide +kernel
theorem dX2_putStake_19 : decode cX2_putStake 19 = .ok (.bipush 64, 2) := by decide +kernel
theorem dX2_putStake_21 : decode cX2_putStake 21 = .ok (.invokevirtual 19, 3) := by decide +kernel
theorem dX2_putStake_24 : decode cX2_putStake 24 = .ok (.aload_n 0, 1) := by decide +kernel
theorem dX2_putStake_25 : decode cX2_putStake 25 = .ok (.iload_n 2, 1) := by decide +kernel
theorem dX2_putStake_26 : decode cX2_putStake 26 = .ok (.invokevirtual 23, 3) := by decide +kernel
theorem dX2_putStake_29 : decode cX2_putStake 29 = .ok (.iload_n 3, 1) := by decide +kernel
theorem dX2_putStake_30 : decode cX2_putStake 30 = .ok (.ifCond .eq 26, 3) := by decide +kernel
theorem dX2_putStake_33 : decode cX2_putStake 33 = .ok (.aload_n 0, 1) := by decide +kernel
theorem dX2_putStake_34 : decode cX2_putStake 34 = .ok (.iload_n 3, 1) := by decide +kernel
theorem dX2_putStake_35 : decode cX2_putStake 35 = .ok (.ifCond .le 8, 3) := by decide +kernel
theorem dX2_putStake_38 : decode cX2_putStake 38 = .ok (.bipush 43, 2) := by decide +kernel
theorem dX2_putStake_40 : decode cX2_putStake 40 = .ok (.goto 5, 3) := by decide +kernel
theorem dX2_putStake_43 : decode cX2_putStake 43 = .ok (.bipush 45, 2) := by decide +kernel
theorem dX2_putStake_45 : decode cX2_putStake 45 = .ok (.invokevirtual 19, 3) := by decide +kernel
theorem dX2_putStake_48 : decode cX2_putStake 48 = .ok (.aload_n 0, 1) := by decide +kernel
theorem dX2_putStake_49 : decode cX2_putStake 49 = .ok (.iload_n 3, 1) := by decide +kernel
theorem dX2_putStake_50 : decode cX2_putStake 50 = .ok (.invokestatic 27, 3) := by decide +kernel
theorem dX2_putStake_53 : decode cX2_putStake 53 = .ok (.invokevirtual 23, 3) := by decide +kernel
theorem dX2_putStake_56 : decode cX2_putStake 56 = .ok (.return_, 1) := by decide +kernel
theorem dX2_putWord_0 : decode cX2_putWord 0 = .ok (.iconst 0, 1) := by decide +kernel
theorem dX2_putWord_1 : decode cX2_putWord 1 = .ok (.istore_n 2, 1) := by decide +kernel
theorem dX2_putWord_2 : decode cX2_putWord 2 = .ok (.iload_n 2, 1) := by decide +kernel
theorem dX2_putWord_3 : decode cX2_putWord 3 = .ok (.aload_n 1, 1) := by decide +kernel
theorem dX2_putWord_4 : decode cX2_putWord 4 = .ok (.invokevirtual 33, 3) := by decide +kernel
theorem dX2_putWord_7 : decode cX2_putWord 7 = .ok (.if_icmp .ge 18, 3) := by decide +kernel
theorem dX2_putWord_10 : decode cX2_putWord 10 = .ok (.aload_n 0, 1) := by decide +kernel
theorem dX2_putWord_11 : decode cX2_putWord 11 = .ok (.aload_n 1, 1) := by decide +kernel
theorem dX2_putWord_12 : decode cX2_putWord 12 = .ok (.iload_n 2, 1) := by decide +kernel
theorem dX2_putWord_13 : decode cX2_putWord 13 = .ok (.invokevirtual 38, 3) := by decide +kernel
theorem dX2_putWord_16 : decode cX2_putWord 16 = .ok (.invokevirtual 19, 3) := by decide +kernel
theorem dX2_putWord_19 : decode cX2_putWord 19 = .ok (.iinc 2 1, 3) := by decide +kernel
theorem dX2_putWord_22 : decode cX2_putWord 22 = .ok (.goto (-20), 3) := by decide +kernel
theorem dX2_putWord_25 : decode cX2_putWord 25 = .ok (.return_, 1) := by decide +kernel
theorem dX2_putNumber_0 : decode cX2_putNumber 0 = .ok (.iload_n 1, 1) := by decide +kernel
theorem dX2_putNumber_1 : decode cX2_putNumber 1 = .ok (.bipush 10, 2) := by decide +kernel
theorem dX2_putNumber_3 : decode cX2_putNumber 3 = .ok (.if_icmp .lt 18, 3) := by decide +kernel
theorem dX2_putNumber_6 : decode cX2_putNumber 6 = .ok (.aload_n 0, 1) := by decide +kernel
theorem dX2_putNumber_7 : decode cX2_putNumber 7 = .ok (.bipush 48, 2) := by decide +kernel
theorem dX2_putNumber_9 : decode cX2_putNumber 9 = .ok (.iload_n 1, 1) := by decide +kernel
theorem dX2_putNumber_10 : decode cX2_putNumber 10 = .ok (.bipush 10, 2) := by decide +kernel
theorem dX2_putNumber_12 : decode cX2_putNumber 12 = .ok (.idiv, 1) := by decide +kernel
theorem dX2_putNumber_13 : decode cX2_putNumber 13 = .ok (.bipush 10, 2) := by decide +kernel
theorem dX2_putNumber_15 : decode cX2_putNumber 15 = .ok (.irem, 1) := by decide +kernel
theorem dX2_putNumber_16 : decode cX2_putNumber 16 = .ok (.iadd, 1) := by decide +kernel
theorem dX2_putNumber_17 : decode cX2_putNumber 17 = .ok (.i2c, 1) := by decide +kernel
theorem dX2_putNumber_18 : decode cX2_putNumber 18 = .ok (.invokevirtual 19, 3) := by decide +kernel
theorem dX2_putNumber_21 : decode cX2_putNumber 21 = .ok (.aload_n 0, 1) := by decide +kernel
theorem dX2_putNumber_22 : decode cX2_putNumber 22 = .ok (.bipush 48, 2) := by decide +kernel
theorem dX2_putNumber_24 : decode cX2_putNumber 24 = .ok (.iload_n 1, 1) := by decide +kernel
theorem dX2_putNumber_25 : decode cX2_putNumber 25 = .ok (.bipush 10, 2) := by decide +kernel
theorem dX2_putNumber_27 : decode cX2_putNumber 27 = .ok (.irem, 1) := by decide +kernel
theorem dX2_putNumber_28 : decode cX2_putNumber 28 = .ok (.iadd, 1) := by decide +kernel
theorem dX2_putNumber_29 : decode cX2_putNumber 29 = .ok (.i2c, 1) := by decide +kernel
theorem dX2_putNumber_30 : decode cX2_putNumber 30 = .ok (.invokevirtual 19, 3) := by decide +kernel
theorem dX2_putNumber_33 : decode cX2_putNumber 33 = .ok (.return_, 1) := by decide +kernel
theorem dX2_put_0 : decode cX2_put 0 = .ok (.aload_n 0, 1) := by decide +kernel
theorem dX2_put_1 : decode cX2_put 1 = .ok (.getfield 15, 3) := by decide +kernel
theorem dX2_put_4 : decode cX2_put 4 = .ok (.ifCond .lt 35, 3) := by decide +kernel
theorem dX2_put_7 : decode cX2_put 7 = .ok (.aload_n 0, 1) := by decide +kernel
theorem dX2_put_8 : decode cX2_put 8 = .ok (.getfield 15, 3) := by decide +kernel
theorem dX2_put_11 : decode cX2_put 11 = .ok (.aload_n 0, 1) := by decide +kernel
theorem dX2_put_12 : decode cX2_put 12 = .ok (.getfield 9, 3) := by decide +kernel
theorem dX2_put_15 : decode cX2_put 15 = .ok (.arraylength, 1) := by decide +kernel
theorem dX2_put_16 : decode cX2_put 16 = .ok (.if_icmp .ge 23, 3) := by decide +kernel
theorem dX2_put_19 : decode cX2_put 19 = .ok (.aload_n 0, 1) := by decide +kernel
theorem dX2_put_20 : decode cX2_put 20 = .ok (.getfield 9, 3) := by decide +kernel
theorem dX2_put_23 : decode cX2_put 23 = .ok (.aload_n 0, 1) := by decide +kernel
theorem dX2_put_24 : decode cX2_put 24 = .ok (.getfield 15, 3) := by decide +kernel
theorem dX2_put_27 : decode cX2_put 27 = .ok (.iload_n 1, 1) := by decide +kernel
theorem dX2_put_28 : decode cX2_put 28 = .ok (.castore, 1) := by decide +kernel
theorem dX2_put_29 : decode cX2_put 29 = .ok (.aload_n 0, 1) := by decide +kernel
theorem dX2_put_30 : decode cX2_put 30 = .ok (.dup, 1) := by decide +kernel
theorem dX2_put_31 : decode cX2_put 31 = .ok (.getfield 15, 3) := by decide +kernel
theorem dX2_put_34 : decode cX2_put 34 = .ok (.iconst 1, 1) := by decide +kernel
theorem dX2_put_35 : decode cX2_put 35 = .ok (.iadd, 1) := by decide +kernel
theorem dX2_put_36 : decode cX2_put 36 = .ok (.putfield 15, 3) := by decide +kernel
theorem dX2_put_39 : decode cX2_put 39 = .ok (.return_, 1) := by decide +kernel
theorem dX3_init_0 : decode cX3_init 0 = .ok (.aload_n 0, 1) := by decide +kernel
theorem dX3_init_1 : decode cX3_init 1 = .ok (.invokespecial 3, 3) := by decide +kernel
theorem dX3_init_4 : decode cX3_init 4 = .ok (.aload_n 0, 1) := by decide +kernel
theorem dX3_init_5 : decode cX3_init 5 = .ok (.iconst 0, 1) := by decide +kernel
theorem dX3_init_6 : decode cX3_init 6 = .ok (.putfield 9, 3) := by decide +kernel
theorem dX3_init_9 : decode cX3_init 9 = .ok (.aload_n 0, 1) := by decide +kernel
theorem dX3_init_10 : decode cX3_init 10 = .ok (.iload_n 1, 1) := by decide +kernel
theorem dX3_init_11 : decode cX3_init 11 = .ok (.ifCond .le 7, 3) := by decide +kernel
theorem dX3_init_14 : decode cX3_init 14 = .ok (.iload_n 1, 1) := by decide +kernel
theorem dX3_init_15 : decode cX3_init 15 = .ok (.goto 4, 3) := by decide +kernel
theorem dX3_init_18 : decode cX3_init 18 = .ok (.iconst 0, 1) := by decide +kernel
theorem dX3_init_19 : decode cX3_init 19 = .ok (.newarray .int, 2) := by decide +kernel
theorem dX3_init_21 : decode cX3_init 21 = .ok (.putfield 15, 3) := by decide +kernel
theorem dX3_init_24 : decode cX3_init 24 = .ok (.return_, 1) := by decide +kernel
theorem dX3_size_0 : decode cX3_size 0 = .ok (.aload_n 0, 1) := by decide +kernel
theorem dX3_size_1 : decode cX3_size 1 = .ok (.getfield 9, 3) := by decide +kernel
theorem dX3_size_4 : decode cX3_size 4 = .ok (.ireturn, 1) := by decide +kernel
theorem dX3_isFull_0 : decode cX3_isFull 0 = .ok (.aload_n 0, 1) := by decide +kernel
theorem dX3_isFull_1 : decode cX3_isFull 1 = .ok (.getfield 9, 3) := by decide +kernel
theorem dX3_isFull_4 : decode cX3_isFull 4 = .ok (.aload_n 0, 1) := by decide +kernel
theorem dX3_isFull_5 : decode cX3_isFull 5 = .ok (.getfield 15, 3) := by decide +kernel
theorem dX3_isFull_8 : decode cX3_isFull 8 = .ok (.arraylength, 1) := by decide +kernel
theorem dX3_isFull_9 : decode cX3_isFull 9 = .ok (.if_icmp .lt 7, 3) := by decide +kernel
theorem dX3_isFull_12 : decode cX3_isFull 12 = .ok (.iconst 1, 1) := by decide +kernel
theorem dX3_isFull_13 : decode cX3_isFull 13 = .ok (.goto 4, 3) := by decide +kernel
theorem dX3_isFull_16 : decode cX3_isFull 16 = .ok (.iconst 0, 1) := by decide +kernel
theorem dX3_isFull_17 : decode cX3_isFull 17 = .ok (.ireturn, 1) := by decide +kernel
theorem dX3_has_0 : decode cX3_has 0 = .ok (.iload_n 1, 1) := by decide +kernel
theorem dX3_has_1 : decode cX3_has 1 = .ok (.ifCond .lt 24, 3) := by decide +kernel
theorem dX3_has_4 : decode cX3_has 4 = .ok (.iload_n 1, 1) := by decide +kernel
theorem dX3_has_5 : decode cX3_has 5 = .ok (.aload_n 0, 1) := by decide +kernel
theorem dX3_has_6 : decode cX3_has 6 = .ok (.getfield 9, 3) := by decide +kernel
theorem dX3_has_9 : decode cX3_has 9 = .ok (.if_icmp .ge 16, 3) := by decide +kernel
theorem dX3_has_12 : decode cX3_has 12 = .ok (.iload_n 1, 1) := by decide +kernel
theorem dX3_has_13 : decode cX3_has 13 = .ok (.aload_n 0, 1) := by decide +kernel
theorem dX3_has_14 : decode cX3_has 14 = .ok (.getfield 15, 3) := by decide +kernel
theorem dX3_has_17 : decode cX3_has 17 = .ok (.arraylength, 1) := by decide +kernel
theorem dX3_has_18 : decode cX3_has 18 = .ok (.if_icmp .ge 7, 3) := by decide +kernel
theorem dX3_has_21 : decode cX3_has 21 = .ok (.iconst 1, 1) := by decide +kernel
theorem dX3_has_22 : decode cX3_has 22 = .ok (.goto 4, 3) := by decide +kernel
theorem dX3_has_25 : decode cX3_has 25 = .ok (.iconst 0, 1) := by decide +kernel
theorem dX3_has_26 : decode cX3_has 26 = .ok (.ireturn, 1) := by decide +kernel
theorem dX3_get_0 : decode cX3_get 0 = .ok (.iload_n 1, 1) := by decide +kernel
theorem dX3_get_1 : decode cX3_get 1 = .ok (.ifCond .lt 29, 3) := by decide +kernel
theorem dX3_get_4 : decode cX3_get 4 = .ok (.iload_n 1, 1) := by decide +kernel
theorem dX3_get_5 : decode cX3_get 5 = .ok (.aload_n 0, 1) := by decide +kernel
theorem dX3_get_6 : decode cX3_get 6 = .ok (.getfield 9, 3) := by decide +kernel
theorem dX3_get_9 : decode cX3_get 9 = .ok (.if_icmp .ge 21, 3) := by decide +kernel
theorem dX3_get_12 : decode cX3_get 12 = .ok (.iload_n 1, 1) := by decide +kernel
theorem dX3_get_13 : decode cX3_get 13 = .ok (.aload_n 0, 1) := by decide +kernel
theorem dX3_get_14 : decode cX3_get 14 = .ok (.getfield 15, 3) := by decide +kernel
theorem dX3_get_17 : decode cX3_get 17 = .ok (.arraylength, 1) := by decide +kernel
theorem dX3_get_18 : decode cX3_get 18 = .ok (.if_icmp .ge 12, 3) := by decide +kernel
theorem dX3_get_21 : decode cX3_get 21 = .ok (.aload_n 0, 1) := by decide +kernel
theorem dX3_get_22 : decode cX3_get 22 = .ok (.getfield 15, 3) := by decide +kernel
theorem dX3_get_25 : decode cX3_get 25 = .ok (.iload_n 1, 1) := by decide +kernel
theorem dX3_get_26 : decode cX3_get 26 = .ok (.iaload, 1) := by decide +kernel
theorem dX3_get_27 : decode cX3_get 27 = .ok (.goto 4, 3) := by decide +kernel
theorem dX3_get_30 : decode cX3_get 30 = .ok (.iconst 0, 1) := by decide +kernel
theorem dX3_get_31 : decode cX3_get 31 = .ok (.ireturn, 1) := by decide +kernel
theorem dX3_set_0 : decode cX3_set 0 = .ok (.iload_n 1, 1) := by decide +kernel
theorem dX3_set_1 : decode cX3_set 1 = .ok (.ifCond .lt 27, 3) := by decide +kernel
theorem dX3_set_4 : decode cX3_set 4 = .ok (.iload_n 1, 1) := by decide +kernel
theorem dX3_set_5 : decode cX3_set 5 = .ok (.aload_n 0, 1) := by decide +kernel
theorem dX3_set_6 : decode cX3_set 6 = .ok (.getfield 9, 3) := by decide +kernel
theorem dX3_set_9 : decode cX3_set 9 = .ok (.if_icmp .ge 19, 3) := by decide +kernel
theorem dX3_set_12 : decode cX3_set 12 = .ok (.iload_n 1, 1) := by decide +kernel
theorem dX3_set_13 : decode cX3_set 13 = .ok (.aload_n 0, 1) := by decide +kernel
theorem dX3_set_14 : decode cX3_set 14 = .ok (.getfield 15, 3) := by decide +kernel
theorem dX3_set_17 : decode cX3_set 17 = .ok (.arraylength, 1) := by decide +kernel
theorem dX3_set_18 : decode cX3_set 18 = .ok (.if_icmp .ge 10, 3) := by decide +kernel
theorem dX3_set_21 : decode cX3_set 21 = .ok (.aload_n 0, 1) := by decide +kernel
theorem dX3_set_22 : decode cX3_set 22 = .ok (.getfield 15, 3) := by decide +kernel
theorem dX3_set_25 : decode cX3_set 25 = .ok (.iload_n 1, 1) := by decide +kernel
theorem dX3_set_26 : decode cX3_set 26 = .ok (.iload_n 2, 1) := by decide +kernel
theorem dX3_set_27 : decode cX3_set 27 = .ok (.iastore, 1) := by decide +kernel
theorem dX3_set_28 : decode cX3_set 28 = .ok (.return_, 1) := by decide +kernel
theorem dX3_add_0 : decode cX3_add 0 = .ok (.aload_n 0, 1) := by decide +kernel
theorem dX3_add_1 : decode cX3_add 1 = .ok (.getfield 9, 3) := by decide +kernel
theorem dX3_add_4 : decode cX3_add 4 = .ok (.ifCond .lt 15, 3) := by decide +kernel
theorem dX3_add_7 : decode cX3_add 7 = .ok (.aload_n 0, 1) := by decide +kernel
theorem dX3_add_8 : decode cX3_add 8 = .ok (.getfield 9, 3) := by decide +kernel
theorem dX3_add_11 : decode cX3_add 11 = .ok (.aload_n 0, 1) := by decide +kernel
theorem dX3_add_12 : decode cX3_add 12 = .ok (.getfield 15, 3) := by decide +kernel
theorem dX3_add_15 : decode cX3_add 15 = .ok (.arraylength, 1) := by decide +kernel
theorem dX3_add_16 : decode cX3_add 16 = .ok (.if_icmp .lt 5, 3) := by decide +kernel
theorem dX3_add_19 : decode cX3_add 19 = .ok (.iconst (-1), 1) := by decide +kernel
theorem dX3_add_20 : decode cX3_add 20 = .ok (.ireturn, 1) := by decide +kernel
theorem dX3_add_21 : decode cX3_add 21 = .ok (.aload_n 0, 1) := by decide +kernel
theorem dX3_add_22 : decode cX3_add 22 = .ok (.getfield 15, 3) := by decide +kernel
theorem dX3_add_25 : decode cX3_add 25 = .ok (.aload_n 0, 1) := by decide +kernel
theorem dX3_add_26 : decode cX3_add 26 = .ok (.getfield 9, 3) := by decide +kernel
theorem dX3_add_29 : decode cX3_add 29 = .ok (.iload_n 1, 1) := by decide +kernel
theorem dX3_add_30 : decode cX3_add 30 = .ok (.iastore, 1) := by decide +kernel
theorem dX3_add_31 : decode cX3_add 31 = .ok (.aload_n 0, 1) := by decide +kernel
theorem dX3_add_32 : decode cX3_add 32 = .ok (.dup, 1) := by decide +kernel
theorem dX3_add_33 : decode cX3_add 33 = .ok (.getfield 9, 3) := by decide +kernel
theorem dX3_add_36 : decode cX3_add 36 = .ok (.iconst 1, 1) := by decide +kernel
theorem dX3_add_37 : decode cX3_add 37 = .ok (.iadd, 1) := by decide +kernel
theorem dX3_add_38 : decode cX3_add 38 = .ok (.putfield 9, 3) := by decide +kernel
theorem dX3_add_41 : decode cX3_add 41 = .ok (.aload_n 0, 1) := by decide +kernel
theorem dX3_add_42 : decode cX3_add 42 = .ok (.getfield 9, 3) := by decide +kernel
theorem dX3_add_45 : decode cX3_add 45 = .ok (.iconst 1, 1) := by decide +kernel
theorem dX3_add_46 : decode cX3_add 46 = .ok (.isub, 1) := by decide +kernel
theorem dX3_add_47 : decode cX3_add 47 = .ok (.ireturn, 1) := by decide +kernel
theorem dX3_clear_0 : decode cX3_clear 0 = .ok (.aload_n 0, 1) := by decide +kernel
theorem dX3_clear_1 : decode cX3_clear 1 = .ok (.iconst 0, 1) := by decide +kernel
theorem dX3_clear_2 : decode cX3_clear 2 = .ok (.putfield 9, 3) := by decide +kernel
theorem dX3_clear_5 : decode cX3_clear 5 = .ok (.return_, 1) := by decide +kernel
theorem dX3_find_0 : decode cX3_find 0 = .ok (.iconst 0, 1) := by decide +kernel
theorem dX3_find_1 : decode cX3_find 1 = .ok (.istore_n 2, 1) := by decide +kernel
theorem dX3_find_2 : decode cX3_find 2 = .ok (.iload_n 2, 1) := by decide +kernel
theorem dX3_find_3 : decode cX3_find 3 = .ok (.aload_n 0, 1) := by decide +kernel
theorem dX3_find_4 : decode cX3_find 4 = .ok (.getfield 9, 3) := by decide +kernel
theorem dX3_find_7 : decode cX3_find 7 = .ok (.if_icmp .ge 20, 3) := by decide +kernel
theorem dX3_find_10 : decode cX3_find 10 = .ok (.aload_n 0, 1) := by decide +kernel
theorem dX3_find_11 : decode cX3_find 11 = .ok (.iload_n 2, 1) := by decide +kernel
theorem dX3_find_12 : decode cX3_find 12 = .ok (.invokevirtual 19, 3) := by decide +kernel
theorem dX3_find_15 : decode cX3_find 15 = .ok (.iload_n 1, 1) := by decide +kernel
theorem dX3_find_16 : decode cX3_find 16 = .ok (.if_icmp .ne 5, 3) := by decide +kernel
theorem dX3_find_19 : decode cX3_find 19 = .ok (.iload_n 2, 1) := by decide +kernel
theorem dX3_find_20 : decode cX3_find 20 = .ok (.ireturn, 1) := by decide +kernel
theorem dX3_find_21 : decode cX3_find 21 = .ok (.iinc 2 1, 3) := by decide +kernel
theorem dX3_find_24 : decode cX3_find 24 = .ok (.goto (-22), 3) := by decide +kernel
theorem dX3_find_27 : decode cX3_find 27 = .ok (.iconst (-1), 1) := by decide +kernel
theorem dX3_find_28 : decode cX3_find 28 = .ok (.ireturn, 1) := by decide +kernel
theorem dX3_sum_0 : decode cX3_sum 0 = .ok (.iconst 0, 1) := by decide +kernel
theorem dX3_sum_1 : decode cX3_sum 1 = .ok (.istore_n 1, 1) := by decide +kernel
theorem dX3_sum_2 : decode cX3_sum 2 = .ok (.iconst 0, 1) := by decide +kernel
theorem dX3_sum_3 : decode cX3_sum 3 = .ok (.istore_n 2, 1) := by decide +kernel
theorem dX3_sum_4 : decode cX3_sum 4 = .ok (.iload_n 2, 1) := by decide +kernel
theorem dX3_sum_5 : decode cX3_sum 5 = .ok (.aload_n 0, 1) := by decide +kernel
theorem dX3_sum_6 : decode cX3_sum 6 = .ok (.getfield 9, 3) := by decide +kernel
theorem dX3_sum_9 : decode cX3_sum 9 = .ok (.if_icmp .ge 17, 3) := by decide +kernel
theorem dX3_sum_12 : decode cX3_sum 12 = .ok (.iload_n 1, 1) := by decide +kernel
theorem dX3_sum_13 : decode cX3_sum 13 = .ok (.aload_n 0, 1) := by decide +kernel
theorem dX3_sum_14 : decode cX3_sum 14 = .ok (.iload_n 2, 1) := by decide +kernel
theorem dX3_sum_15 : decode cX3_sum 15 = .ok (.invokevirtual 19, 3) := by decide +kernel
theorem dX3_sum_18 : decode cX3_sum 18 = .ok (.iadd, 1) := by decide +kernel
theorem dX3_sum_19 : decode cX3_sum 19 = .ok (.istore_n 1, 1) := by decide +kernel
theorem dX3_sum_20 : decode cX3_sum 20 = .ok (.iinc 2 1, 3) := by decide +kernel
theorem dX3_sum_23 : decode cX3_sum 23 = .ok (.goto (-19), 3) := by decide +kernel
theorem dX3_sum_26 : decode cX3_sum 26 = .ok (.iload_n 1, 1) := by decide +kernel
theorem dX3_sum_27 : decode cX3_sum 27 = .ok (.ireturn, 1) := by decide +kernel
theorem dX3_copyFrom_0 : decode cX3_copyFrom 0 = .ok (.aload_n 1, 1) := by decide +kernel
theorem dX3_copyFrom_1 : decode cX3_copyFrom 1 = .ok (.getfield 15, 3) := by decide +kernel
theorem dX3_copyFrom_4 : decode cX3_copyFrom 4 = .ok (.iconst 0, 1) := by decide +kernel
theorem dX3_copyFrom_5 : decode cX3_copyFrom 5 = .ok (.aload_n 0, 1) := by decide +kernel
theorem dX3_copyFrom_6 : decode cX3_copyFrom 6 = .ok (.getfield 15, 3) := by decide +kernel
theorem dX3_copyFrom_9 : decode cX3_copyFrom 9 = .ok (.iconst 0, 1) := by decide +kernel
theorem dX3_copyFrom_10 : decode cX3_copyFrom 10 = .ok (.aload_n 0, 1) := by decide +kernel
theorem dX3_copyFrom_11 : decode cX3_copyFrom 11 = .ok (.getfield 15, 3) := by decide +kernel
theorem dX3_copyFrom_14 : decode cX3_copyFrom 14 = .ok (.arraylength, 1) := by decide +kernel
theorem dX3_copyFrom_15 : decode cX3_copyFrom 15 = .ok (.aload_n 1, 1) := by decide +kernel
theorem dX3_copyFrom_16 : decode cX3_copyFrom 16 = .ok (.getfield 15, 3) := by decide +kernel
theorem dX3_copyFrom_19 : decode cX3_copyFrom 19 = .ok (.arraylength, 1) := by decide +kernel
theorem dX3_copyFrom_20 : decode cX3_copyFrom 20 = .ok (.invokestatic 23, 3) := by decide +kernel
theorem dX3_copyFrom_23 : decode cX3_copyFrom 23 = .ok (.invokestatic 29, 3) := by decide +kernel
theorem dX3_copyFrom_26 : decode cX3_copyFrom 26 = .ok (.aload_n 0, 1) := by decide +kernel
theorem dX3_copyFrom_27 : decode cX3_copyFrom 27 = .ok (.aload_n 1, 1) := by decide +kernel
theorem dX3_copyFrom_28 : decode cX3_copyFrom 28 = .ok (.getfield 9, 3) := by decide +kernel
theorem dX3_copyFrom_31 : decode cX3_copyFrom 31 = .ok (.putfield 9, 3) := by decide +kernel
theorem dX3_copyFrom_34 : decode cX3_copyFrom 34 = .ok (.return_, 1) := by decide +kernel
theorem dX4_init_0 : decode cX4_init 0 = .ok (.aload_n 0, 1) := by decide +kernel
theorem dX4_init_1 : decode cX4_init 1 = .ok (.invokespecial 3, 3) := by decide +kernel
theorem dX4_init_4 : decode cX4_init 4 = .ok (.aload_n 0, 1) := by decide +kernel
theorem dX4_init_5 : decode cX4_init 5 = .ok (.new 9, 3) := by decide +kernel
theorem dX4_init_8 : decode cX4_init 8 = .ok (.dup, 1) := by decide +kernel
theorem dX4_init_9 : decode cX4_init 9 = .ok (.iconst 3, 1) := by decide +kernel
theorem dX4_init_10 : decode cX4_init 10 = .ok (.invokespecial 11, 3) := by decide +kernel
theorem dX4_init_13 : decode cX4_init 13 = .ok (.putfield 14, 3) := by decide +kernel
theorem dX4_init_16 : decode cX4_init 16 = .ok (.aload_n 0, 1) := by decide +kernel
theorem dX4_init_17 : decode cX4_init 17 = .ok (.bipush 60, 2) := by decide +kernel
theorem dX4_init_19 : decode cX4_init 19 = .ok (.newarray .char, 2) := by decide +kernel
theorem dX4_init_21 : decode cX4_init 21 = .ok (.putfield 20, 3) := by decide +kernel
theorem dX4_init_24 : decode cX4_init 24 = .ok (.aload_n 0, 1) := by decide +kernel
theorem dX4_init_25 : decode cX4_init 25 = .ok (.iconst 0, 1) := by decide +kernel
theorem dX4_init_26 : decode cX4_init 26 = .ok (.putfield 24, 3) := by decide +kernel
theorem dX4_init_29 : decode cX4_init 29 = .ok (.aload_n 0, 1) := by decide +kernel
theorem dX4_init_30 : decode cX4_init 30 = .ok (.iconst 0, 1) := by decide +kernel
theorem dX4_init_31 : decode cX4_init 31 = .ok (.putfield 28, 3) := by decide +kernel
theorem dX4_init_34 : decode cX4_init 34 = .ok (.aload_n 0, 1) := by decide +kernel
theorem dX4_init_35 : decode cX4_init 35 = .ok (.bipush 32, 2) := by decide +kernel
theorem dX4_init_37 : decode cX4_init 37 = .ok (.putfield 31, 3) := by decide +kernel
theorem dX4_init_40 : decode cX4_init 40 = .ok (.return_, 1) := by decide +kernel
theorem dX4_length_0 : decode cX4_length 0 = .ok (.aload_n 0, 1) := by decide +kernel
theorem dX4_length_1 : decode cX4_length 1 = .ok (.getfield 24, 3) := by decide +kernel
theorem dX4_length_4 : decode cX4_length 4 = .ok (.ireturn, 1) := by decide +kernel
theorem dX4_position_0 : decode cX4_position 0 = .ok (.aload_n 0, 1) := by decide +kernel
theorem dX4_position_1 : decode cX4_position 1 = .ok (.getfield 28, 3) := by decide +kernel
theorem dX4_position_4 : decode cX4_position 4 = .ok (.ireturn, 1) := by decide +kernel
theorem dX4_kind_0 : decode cX4_kind 0 = .ok (.aload_n 0, 1) := by decide +kernel
theorem dX4_kind_1 : decode cX4_kind 1 = .ok (.getfield 31, 3) := by decide +kernel
theorem dX4_kind_4 : decode cX4_kind 4 = .ok (.ireturn, 1) := by decide +kernel
theorem dX4_isFull_0 : decode cX4_isFull 0 = .ok (.aload_n 0, 1) := by decide +kernel
theorem dX4_isFull_1 : decode cX4_isFull 1 = .ok (.getfield 24, 3) := by decide +kernel
theorem dX4_isFull_4 : decode cX4_isFull 4 = .ok (.aload_n 0, 1) := by decide +kernel
theorem dX4_isFull_5 : decode cX4_isFull 5 = .ok (.getfield 20, 3) := by decide +kernel
theorem dX4_isFull_8 : decode cX4_isFull 8 = .ok (.arraylength, 1) := by decide +kernel
theorem dX4_isFull_9 : decode cX4_isFull 9 = .ok (.if_icmp .lt 7, 3) := by decide +kernel
theorem dX4_isFull_12 : decode cX4_isFull 12 = .ok (.iconst 1, 1) := by decide +kernel
theorem dX4_isFull_13 : decode cX4_isFull 13 = .ok (.goto 4, 3) := by decide +kernel
theorem dX4_isFull_16 : decode cX4_isFull 16 = .ok (.iconst 0, 1) := by decide +kernel
theorem dX4_isFull_17 : decode cX4_isFull 17 = .ok (.ireturn, 1) := by decide +kernel
theorem dX4_put_0 : decode cX4_put 0 = .ok (.aload_n 0, 1) := by decide +kernel
theorem dX4_put_1 : decode cX4_put 1 = .ok (.getfield 24, 3) := by decide +kernel
theorem dX4_put_4 : decode cX4_put 4 = .ok (.ifCond .lt 35, 3) := by decide +kernel
theorem dX4_put_7 : decode cX4_put 7 = .ok (.aload_n 0, 1) := by decide +kernel
theorem dX4_put_8 : decode cX4_put 8 = .ok (.getfield 24, 3) := by decide +kernel
theorem dX4_put_11 : decode cX4_put 11 = .ok (.aload_n 0, 1) := by decide +kernel
theorem dX4_put_12 : decode cX4_put 12 = .ok (.getfield 20, 3) := by decide +kernel
theorem dX4_put_15 : decode cX4_put 15 = .ok (.arraylength, 1) := by decide +kernel
theorem dX4_put_16 : decode cX4_put 16 = .ok (.if_icmp .ge 23, 3) := by decide +kernel
theorem dX4_put_19 : decode cX4_put 19 = .ok (.aload_n 0, 1) := by decide +kernel
theorem dX4_put_20 : decode cX4_put 20 = .ok (.getfield 20, 3) := by decide +kernel
theorem dX4_put_23 : decode cX4_put 23 = .ok (.aload_n 0, 1) := by decide +kernel
theorem dX4_put_24 : decode cX4_put 24 = .ok (.getfield 24, 3) := by decide +kernel
theorem dX4_put_27 : decode cX4_put 27 = .ok (.iload_n 1, 1) := by decide +kernel
theorem dX4_put_28 : decode cX4_put 28 = .ok (.castore, 1) := by decide +kernel
theorem dX4_put_29 : decode cX4_put 29 = .ok (.aload_n 0, 1) := by decide +kernel
theorem dX4_put_30 : decode cX4_put 30 = .ok (.dup, 1) := by decide +kernel
theorem dX4_put_31 : decode cX4_put 31 = .ok (.getfield 24, 3) := by decide +kernel
theorem dX4_put_34 : decode cX4_put 34 = .ok (.iconst 1, 1) := by decide +kernel
theorem dX4_put_35 : decode cX4_put 35 = .ok (.iadd, 1) := by decide +kernel
theorem dX4_put_36 : decode cX4_put 36 = .ok (.putfield 24, 3) := by decide +kernel
theorem dX4_put_39 : decode cX4_put 39 = .ok (.aload_n 0, 1) := by decide +kernel
theorem dX4_put_40 : decode cX4_put 40 = .ok (.getfield 24, 3) := by decide +kernel
theorem dX4_put_43 : decode cX4_put 43 = .ok (.ireturn, 1) := by decide +kernel
theorem dX4_clear_0 : decode cX4_clear 0 = .ok (.aload_n 0, 1) := by decide +kernel
theorem dX4_clear_1 : decode cX4_clear 1 = .ok (.iconst 0, 1) := by decide +kernel
theorem dX4_clear_2 : decode cX4_clear 2 = .ok (.putfield 24, 3) := by decide +kernel
theorem dX4_clear_5 : decode cX4_clear 5 = .ok (.return_, 1) := by decide +kernel
theorem dX4_rewind_0 : decode cX4_rewind 0 = .ok (.aload_n 0, 1) := by decide +kernel
theorem dX4_rewind_1 : decode cX4_rewind 1 = .ok (.iconst 0, 1) := by decide +kernel
theorem dX4_rewind_2 : decode cX4_rewind 2 = .ok (.putfield 28, 3) := by decide +kernel
theorem dX4_rewind_5 : decode cX4_rewind 5 = .ok (.return_, 1) := by decide +kernel
theorem dX4_countCommands_0 : decode cX4_countCommands 0 = .ok (.aload_n 0, 1) := by decide +kernel
theorem dX4_countCommands_1 : decode cX4_countCommands 1 = .ok (.invokevirtual 35, 3) := by decide +kernel
theorem dX4_countCommands_4 : decode cX4_countCommands 4 = .ok (.iconst 1, 1) := by decide +kernel
theorem dX4_countCommands_5 : decode cX4_countCommands 5 = .ok (.istore_n 1, 1) := by decide +kernel
theorem dX4_countCommands_6 : decode cX4_countCommands 6 = .ok (.iload_n 1, 1) := by decide +kernel
theorem dX4_countCommands_7 : decode cX4_countCommands 7 = .ok (.bipush 60, 2) := by decide +kernel
theorem dX4_countCommands_9 : decode cX4_countCommands 9 = .ok (.if_icmp .gt 42, 3) := by decide +kernel
theorem dX4_countCommands_12 : decode cX4_countCommands 12 = .ok (.aload_n 0, 1) := by decide +kernel
theorem dX4_countCommands_13 : decode cX4_countCommands 13 = .ok (.invokevirtual 38, 3) := by decide +kernel
theorem dX4_countCommands_16 : decode cX4_countCommands 16 = .ok (.ifCond .ne 5, 3) := by decide +kernel
theorem dX4_countCommands_19 : decode cX4_countCommands 19 = .ok (.iconst (-1), 1) := by decide +kernel
theorem dX4_countCommands_20 : decode cX4_countCommands 20 = .ok (.ireturn, 1) := by decide +kernel
theorem dX4_countCommands_21 : decode cX4_countCommands 21 = .ok (.aload_n 0, 1) := by decide +kernel
theorem dX4_countCommands_22 : decode cX4_countCommands 22 = .ok (.getfield 28, 3) := by decide +kernel
theorem dX4_countCommands_25 : decode cX4_countCommands 25 = .ok (.aload_n 0, 1) := by decide +kernel
theorem dX4_countCommands_26 : decode cX4_countCommands 26 = .ok (.getfield 24, 3) := by decide +kernel
theorem dX4_countCommands_29 : decode cX4_countCommands 29 = .ok (.if_icmp .lt 5, 3) := by decide +kernel
theorem dX4_countCommands_32 : decode cX4_countCommands 32 = .ok (.iload_n 1, 1) := by decide +kernel
theorem dX4_countCommands_33 : decode cX4_countCommands 33 = .ok (.ireturn, 1) := by decide +kernel
theorem dX4_countCommands_34 : decode cX4_countCommands 34 = .ok (.aload_n 0, 1) := by decide +kernel
theorem dX4_countCommands_35 : decode cX4_countCommands 35 = .ok (.bipush 59, 2) := by decide +kernel
theorem dX4_countCommands_37 : decode cX4_countCommands 37 = .ok (.invokevirtual 42, 3) := by decide +kernel
theorem dX4_countCommands_40 : decode cX4_countCommands 40 = .ok (.ifCond .ne 5, 3) := by decide +kernel
theorem dX4_countCommands_43 : decode cX4_countCommands 43 = .ok (.iconst (-1), 1) := by decide +kernel
theorem dX4_countCommands_44 : decode cX4_countCommands 44 = .ok (.ireturn, 1) := by decide +kernel
theorem dX4_countCommands_45 : decode cX4_countCommands 45 = .ok (.iinc 1 1, 3) := by decide +kernel
theorem dX4_countCommands_48 : decode cX4_countCommands 48 = .ok (.goto (-42), 3) := by decide +kernel
theorem dX4_countCommands_51 : decode cX4_countCommands 51 = .ok (.iconst (-1), 1) := by decide +kernel
theorem dX4_countCommands_52 : decode cX4_countCommands 52 = .ok (.ireturn, 1) := by decide +kernel
theorem dX4_readCommand_0 : decode cX4_readCommand 0 = .ok (.aload_n 0, 1) := by decide +kernel
theorem dX4_readCommand_1 : decode cX4_readCommand 1 = .ok (.getfield 14, 3) := by decide +kernel
theorem dX4_readCommand_4 : decode cX4_readCommand 4 = .ok (.invokevirtual 46, 3) := by decide +kernel
theorem dX4_readCommand_7 : decode cX4_readCommand 7 = .ok (.aload_n 0, 1) := by decide +kernel
theorem dX4_readCommand_8 : decode cX4_readCommand 8 = .ok (.aload_n 0, 1) := by decide +kernel
theorem dX4_readCommand_9 : decode cX4_readCommand 9 = .ok (.invokevirtual 49, 3) := by decide +kernel
theorem dX4_readCommand_12 : decode cX4_readCommand 12 = .ok (.putfield 31, 3) := by decide +kernel
theorem dX4_readCommand_15 : decode cX4_readCommand 15 = .ok (.aload_n 0, 1) := by decide +kernel
theorem dX4_readCommand_16 : decode cX4_readCommand 16 = .ok (.getfield 31, 3) := by decide +kernel
theorem dX4_readCommand_19 : decode cX4_readCommand 19 = .ok (.invokestatic 53, 3) := by decide +kernel
theorem dX4_readCommand_22 : decode cX4_readCommand 22 = .ok (.astore_n 1, 1) := by decide +kernel
theorem dX4_readCommand_23 : decode cX4_readCommand 23 = .ok (.iconst 0, 1) := by decide +kernel
theorem dX4_readCommand_24 : decode cX4_readCommand 24 = .ok (.istore_n 2, 1) := by decide +kernel
theorem dX4_readCommand_25 : decode cX4_readCommand 25 = .ok (.iload_n 2, 1) := by decide +kernel
theorem dX4_readCommand_26 : decode cX4_readCommand 26 = .ok (.aload_n 1, 1) := by decide +kernel
theorem dX4_readCommand_27 : decode cX4_readCommand 27 = .ok (.invokevirtual 57, 3) := by decide +kernel
theorem dX4_readCommand_30 : decode cX4_readCommand 30 = .ok (.if_icmp .ge 23, 3) := by decide +kernel
theorem dX4_readCommand_33 : decode cX4_readCommand 33 = .ok (.aload_n 0, 1) := by decide +kernel
theorem dX4_readCommand_34 : decode cX4_readCommand 34 = .ok (.aload_n 1, 1) := by decide +kernel
theorem dX4_readCommand_35 : decode cX4_readCommand 35 = .ok (.iload_n 2, 1) := by decide +kernel
theorem dX4_readCommand_36 : decode cX4_readCommand 36 = .ok (.invokevirtual 62, 3) := by decide +kernel
theorem dX4_readCommand_39 : decode cX4_readCommand 39 = .ok (.invokevirtual 66, 3) := by decide +kernel
theorem dX4_readCommand_42 : decode cX4_readCommand 42 = .ok (.ifCond .ne 5, 3) := by decide +kernel
theorem dX4_readCommand_45 : decode cX4_readCommand 45 = .ok (.iconst 0, 1) := by decide +kernel
theorem dX4_readCommand_46 : decode cX4_readCommand 46 = .ok (.ireturn, 1) := by decide +kernel
theorem dX4_readCommand_47 : decode cX4_readCommand 47 = .ok (.iinc 2 1, 3) := by decide +kernel
theorem dX4_readCommand_50 : decode cX4_readCommand 50 = .ok (.goto (-25), 3) := by decide +kernel
theorem dX4_readCommand_53 : decode cX4_readCommand 53 = .ok (.aload_n 1, 1) := by decide +kernel
theorem dX4_readCommand_54 : decode cX4_readCommand 54 = .ok (.invokevirtual 69, 3) := by decide +kernel
theorem dX4_readCommand_57 : decode cX4_readCommand 57 = .ok (.ifCond .ne 7, 3) := by decide +kernel
theorem dX4_readCommand_60 : decode cX4_readCommand 60 = .ok (.iconst 1, 1) := by decide +kernel
theorem dX4_readCommand_61 : decode cX4_readCommand 61 = .ok (.goto 4, 3) := by decide +kernel
theorem dX4_readCommand_64 : decode cX4_readCommand 64 = .ok (.iconst 0, 1) := by decide +kernel
theorem dX4_readCommand_65 : decode cX4_readCommand 65 = .ok (.ireturn, 1) := by decide +kernel
theorem dX4_formOf_0 : decode cX4_formOf 0 = .ok (.iload_n 0, 1) := by decide +kernel
theorem dX4_formOf_1 : decode cX4_formOf 1 = .ok (.tableswitch 124 98 119 #[109, 124, 118, 106, 124, 124, 124, 124, 124, 124, 115, 124, 124, 124, 124, 124, 124, 103, 112, 124, 124, 121], 103) := by decide +kernel
theorem dX4_formOf_104 : decode cX4_formOf 104 = .ok (.ldc 72, 2) := by decide +kernel
theorem dX4_formOf_106 : decode cX4_formOf 106 = .ok (.areturn, 1) := by decide +kernel
theorem dX4_formOf_107 : decode cX4_formOf 107 = .ok (.ldc 74, 2) := by decide +kernel
theorem dX4_formOf_109 : decode cX4_formOf 109 = .ok (.areturn, 1) := by decide +kernel
theorem dX4_formOf_110 : decode cX4_formOf 110 = .ok (.ldc 76, 2) := by decide +kernel
theorem dX4_formOf_112 : decode cX4_formOf 112 = .ok (.areturn, 1) := by decide +kernel
theorem dX4_formOf_113 : decode cX4_formOf 113 = .ok (.ldc 78, 2) := by decide +kernel
theorem dX4_formOf_115 : decode cX4_formOf 115 = .ok (.areturn, 1) := by decide +kernel
theorem dX4_formOf_116 : decode cX4_formOf 116 = .ok (.ldc 80, 2) := by decide +kernel
theorem dX4_formOf_118 : decode cX4_formOf 118 = .ok (.areturn, 1) := by decide +kernel
theorem dX4_formOf_119 : decode cX4_formOf 119 = .ok (.ldc 82, 2) := by decide +kernel
theorem dX4_formOf_121 : decode cX4_formOf 121 = .ok (.areturn, 1) := by decide +kernel
theorem dX4_formOf_122 : decode cX4_formOf 122 = .ok (.ldc 84, 2) := by decide +kernel
theorem dX4_formOf_124 : decode cX4_formOf 124 = .ok (.areturn, 1) := by decide +kernel
theorem dX4_formOf_125 : decode cX4_formOf 125 = .ok (.ldc 86, 2) := by decide +kernel
theorem dX4_formOf_127 : decode cX4_formOf 127 = .ok (.areturn, 1) := by decide +kernel
theorem dX4_readPart_0 : decode cX4_readPart 0 = .ok (.iload_n 1, 1) := by decide +kernel
theorem dX4_readPart_1 : decode cX4_readPart 1 = .ok (.bipush 49, 2) := by decide +kernel
theorem dX4_readPart_3 : decode cX4_readPart 3 = .ok (.if_icmp .eq 9, 3) := by decide +kernel
theorem dX4_readPart_6 : decode cX4_readPart 6 = .ok (.iload_n 1, 1) := by decide +kernel
theorem dX4_readPart_7 : decode cX4_readPart 7 = .ok (.bipush 50, 2) := by decide +kernel
theorem dX4_readPart_9 : decode cX4_readPart 9 = .ok (.if_icmp .ne 19, 3) := by decide +kernel
theorem dX4_readPart_12 : decode cX4_readPart 12 = .ok (.aload_n 0, 1) := by decide +kernel
theorem dX4_readPart_13 : decode cX4_readPart 13 = .ok (.iload_n 1, 1) := by decide +kernel
theorem dX4_readPart_14 : decode cX4_readPart 14 = .ok (.bipush 50, 2) := by decide +kernel
theorem dX4_readPart_16 : decode cX4_readPart 16 = .ok (.if_icmp .ne 7, 3) := by decide +kernel
theorem dX4_readPart_19 : decode cX4_readPart 19 = .ok (.iconst 1, 1) := by decide +kernel
theorem dX4_readPart_20 : decode cX4_readPart 20 = .ok (.goto 4, 3) := by decide +kernel
theorem dX4_readPart_23 : decode cX4_readPart 23 = .ok (.iconst 0, 1) := by decide +kernel
theorem dX4_readPart_24 : decode cX4_readPart 24 = .ok (.invokevirtual 88, 3) := by decide +kernel
theorem dX4_readPart_27 : decode cX4_readPart 27 = .ok (.ireturn, 1) := by decide +kernel
theorem dX4_readPart_28 : decode cX4_readPart 28 = .ok (.aload_n 0, 1) := by decide +kernel
theorem dX4_readPart_29 : decode cX4_readPart 29 = .ok (.iload_n 1, 1) := by decide +kernel
theorem dX4_readPart_30 : decode cX4_readPart 30 = .ok (.invokevirtual 42, 3) := by decide +kernel
theorem dX4_readPart_33 : decode cX4_readPart 33 = .ok (.ireturn, 1) := by decide +kernel
theorem dX4_readSign_0 : decode cX4_readSign 0 = .ok (.aload_n 0, 1) := by decide +kernel
theorem dX4_readSign_1 : decode cX4_readSign 1 = .ok (.invokevirtual 49, 3) := by decide +kernel
theorem dX4_readSign_4 : decode cX4_readSign 4 = .ok (.iload_n 1, 1) := by decide +kernel
theorem dX4_readSign_5 : decode cX4_readSign 5 = .ok (.if_icmp .eq 5, 3) := by decide +kernel
theorem dX4_readSign_8 : decode cX4_readSign 8 = .ok (.iconst 0, 1) := by decide +kernel
theorem dX4_readSign_9 : decode cX4_readSign 9 = .ok (.ireturn, 1) := by decide +kernel
theorem dX4_readSign_10 : decode cX4_readSign 10 = .ok (.aload_n 0, 1) := by decide +kernel
theorem dX4_readSign_11 : decode cX4_readSign 11 = .ok (.dup, 1) := by decide +kernel
theorem dX4_readSign_12 : decode cX4_readSign 12 = .ok (.getfield 28, 3) := by decide +kernel
theorem dX4_readSign_15 : decode cX4_readSign 15 = .ok (.iconst 1, 1) := by decide +kernel
theorem dX4_readSign_16 : decode cX4_readSign 16 = .ok (.iadd, 1) := by decide +kernel
theorem dX4_readSign_17 : decode cX4_readSign 17 = .ok (.putfield 28, 3) := by decide +kernel
theorem dX4_readSign_20 : decode cX4_readSign 20 = .ok (.iconst 1, 1) := by decide +kernel
theorem dX4_readSign_21 : decode cX4_readSign 21 = .ok (.ireturn, 1) := by decide +kernel
theorem dX4_readNumber_0 : decode cX4_readNumber 0 = .ok (.aload_n 0, 1) := by decide +kernel
theorem dX4_readNumber_1 : decode cX4_readNumber 1 = .ok (.invokevirtual 92, 3) := by decide +kernel
theorem dX4_readNumber_4 : decode cX4_readNumber 4 = .ok (.istore_n 2, 1) := by decide +kernel
theorem dX4_readNumber_5 : decode cX4_readNumber 5 = .ok (.iload_n 2, 1) := by decide +kernel
theorem dX4_readNumber_6 : decode cX4_readNumber 6 = .ok (.iconst (-1), 1) := by decide +kernel
theorem dX4_readNumber_7 : decode cX4_readNumber 7 = .ok (.if_icmp .ne 5, 3) := by decide +kernel
theorem dX4_readNumber_10 : decode cX4_readNumber 10 = .ok (.iconst 0, 1) := by decide +kernel
theorem dX4_readNumber_11 : decode cX4_readNumber 11 = .ok (.ireturn, 1) := by decide +kernel
theorem dX4_readNumber_12 : decode cX4_readNumber 12 = .ok (.iload_n 1, 1) := by decide +kernel
theorem dX4_readNumber_13 : decode cX4_readNumber 13 = .ok (.ifCond .eq 10, 3) := by decide +kernel
theorem dX4_readNumber_16 : decode cX4_readNumber 16 = .ok (.aload_n 0, 1) := by decide +kernel
theorem dX4_readNumber_17 : decode cX4_readNumber 17 = .ok (.invokevirtual 92, 3) := by decide +kernel
theorem dX4_readNumber_20 : decode cX4_readNumber 20 = .ok (.goto 4, 3) := by decide +kernel
theorem dX4_readNumber_23 : decode cX4_readNumber 23 = .ok (.iconst (-1), 1) := by decide +kernel
theorem dX4_readNumber_24 : decode cX4_readNumber 24 = .ok (.istore_n 3, 1) := by decide +kernel
theorem dX4_readNumber_25 : decode cX4_readNumber 25 = .ok (.aload_n 0, 1) := by decide +kernel
theorem dX4_readNumber_26 : decode cX4_readNumber 26 = .ok (.getfield 14, 3) := by decide +kernel
theorem dX4_readNumber_29 : decode cX4_readNumber 29 = .ok (.iload_n 3, 1) := by decide +kernel
theorem dX4_readNumber_30 : decode cX4_readNumber 30 = .ok (.iconst (-1), 1) := by decide +kernel
theorem dX4_readNumber_31 : decode cX4_readNumber 31 = .ok (.if_icmp .ne 7, 3) := by decide +kernel
theorem dX4_readNumber_34 : decode cX4_readNumber 34 = .ok (.iload_n 2, 1) := by decide +kernel
theorem dX4_readNumber_35 : decode cX4_readNumber 35 = .ok (.goto 9, 3) := by decide +kernel
theorem dX4_readNumber_38 : decode cX4_readNumber 38 = .ok (.iload_n 2, 1) := by decide +kernel
theorem dX4_readNumber_39 : decode cX4_readNumber 39 = .ok (.bipush 10, 2) := by decide +kernel
theorem dX4_readNumber_41 : decode cX4_readNumber 41 = .ok (.imul, 1) := by decide +kernel
theorem dX4_readNumber_42 : decode cX4_readNumber 42 = .ok (.iload_n 3, 1) := by decide +kernel
theorem dX4_readNumber_43 : decode cX4_readNumber 43 = .ok (.iadd, 1) := by decide +kernel
theorem dX4_readNumber_44 : decode cX4_readNumber 44 = .ok (.invokevirtual 95, 3) := by decide +kernel
theorem dX4_readNumber_47 : decode cX4_readNumber 47 = .ok (.pop, 1) := by decide +kernel
theorem dX4_readNumber_48 : decode cX4_readNumber 48 = .ok (.iconst 1, 1) := by decide +kernel
theorem dX4_readNumber_49 : decode cX4_readNumber 49 = .ok (.ireturn, 1) := by decide +kernel
theorem dX4_readDigit_0 : decode cX4_readDigit 0 = .ok (.aload_n 0, 1) := by decide +kernel
theorem dX4_readDigit_1 : decode cX4_readDigit 1 = .ok (.invokevirtual 49, 3) := by decide +kernel
theorem dX4_readDigit_4 : decode cX4_readDigit 4 = .ok (.istore_n 1, 1) := by decide +kernel
theorem dX4_readDigit_5 : decode cX4_readDigit 5 = .ok (.iload_n 1, 1) := by decide +kernel
theorem dX4_readDigit_6 : decode cX4_readDigit 6 = .ok (.bipush 48, 2) := by decide +kernel
theorem dX4_readDigit_8 : decode cX4_readDigit 8 = .ok (.if_icmp .lt 9, 3) := by decide +kernel
theorem dX4_readDigit_11 : decode cX4_readDigit 11 = .ok (.iload_n 1, 1) := by decide +kernel
theorem dX4_readDigit_12 : decode cX4_readDigit 12 = .ok (.bipush 57, 2) := by decide +kernel
theorem dX4_readDigit_14 : decode cX4_readDigit 14 = .ok (.if_icmp .le 5, 3) := by decide +kernel
theorem dX4_readDigit_17 : decode cX4_readDigit 17 = .ok (.iconst (-1), 1) := by decide +kernel
theorem dX4_readDigit_18 : decode cX4_readDigit 18 = .ok (.ireturn, 1) := by decide +kernel
theorem dX4_readDigit_19 : decode cX4_readDigit 19 = .ok (.aload_n 0, 1) := by decide +kernel
theorem dX4_readDigit_20 : decode cX4_readDigit 20 = .ok (.dup, 1) := by decide +kernel
theorem dX4_readDigit_21 : decode cX4_readDigit 21 = .ok (.getfield 28, 3) := by decide +kernel
theorem dX4_readDigit_24 : decode cX4_readDigit 24 = .ok (.iconst 1, 1) := by decide +kernel
theorem dX4_readDigit_25 : decode cX4_readDigit 25 = .ok (.iadd, 1) := by decide +kernel
theorem dX4_readDigit_26 : decode cX4_readDigit 26 = .ok (.putfield 28, 3) := by decide +kernel
theorem dX4_readDigit_29 : decode cX4_readDigit 29 = .ok (.iload_n 1, 1) := by decide +kernel
theorem dX4_readDigit_30 : decode cX4_readDigit 30 = .ok (.bipush 48, 2) := by decide +kernel
theorem dX4_readDigit_32 : decode cX4_readDigit 32 = .ok (.isub, 1) := by decide +kernel
theorem dX4_readDigit_33 : decode cX4_readDigit 33 = .ok (.ireturn, 1) := by decide +kernel
theorem dX4_signHere_0 : decode cX4_signHere 0 = .ok (.aload_n 0, 1) := by decide +kernel
theorem dX4_signHere_1 : decode cX4_signHere 1 = .ok (.getfield 28, 3) := by decide +kernel
theorem dX4_signHere_4 : decode cX4_signHere 4 = .ok (.ifCond .lt 38, 3) := by decide +kernel
theorem dX4_signHere_7 : decode cX4_signHere 7 = .ok (.aload_n 0, 1) := by decide +kernel
theorem dX4_signHere_8 : decode cX4_signHere 8 = .ok (.getfield 28, 3) := by decide +kernel
theorem dX4_signHere_11 : decode cX4_signHere 11 = .ok (.aload_n 0, 1) := by decide +kernel
theorem dX4_signHere_12 : decode cX4_signHere 12 = .ok (.getfield 24, 3) := by decide +kernel
theorem dX4_signHere_15 : decode cX4_signHere 15 = .ok (.if_icmp .ge 27, 3) := by decide +kernel
theorem dX4_signHere_18 : decode cX4_signHere 18 = .ok (.aload_n 0, 1) := by decide +kernel
theorem dX4_signHere_19 : decode cX4_signHere 19 = .ok (.getfield 28, 3) := by decide +kernel
theorem dX4_signHere_22 : decode cX4_signHere 22 = .ok (.aload_n 0, 1) := by decide +kernel
theorem dX4_signHere_23 : decode cX4_signHere 23 = .ok (.getfield 20, 3) := by decide +kernel
theorem dX4_signHere_26 : decode cX4_signHere 26 = .ok (.arraylength, 1) := by decide +kernel
theorem dX4_signHere_27 : decode cX4_signHere 27 = .ok (.if_icmp .ge 15, 3) := by decide +kernel
theorem dX4_signHere_30 : decode cX4_signHere 30 = .ok (.aload_n 0, 1) := by decide +kernel
theorem dX4_signHere_31 : decode cX4_signHere 31 = .ok (.getfield 20, 3) := by decide +kernel
theorem dX4_signHere_34 : decode cX4_signHere 34 = .ok (.aload_n 0, 1) := by decide +kernel
theorem dX4_signHere_35 : decode cX4_signHere 35 = .ok (.getfield 28, 3) := by decide +kernel
theorem dX4_signHere_38 : decode cX4_signHere 38 = .ok (.caload, 1) := by decide +kernel
theorem dX4_signHere_39 : decode cX4_signHere 39 = .ok (.goto 5, 3) := by decide +kernel
theorem dX4_signHere_42 : decode cX4_signHere 42 = .ok (.bipush 32, 2) := by decide +kernel
theorem dX4_signHere_44 : decode cX4_signHere 44 = .ok (.ireturn, 1) := by decide +kernel
theorem dX5_init_0 : decode cX5_init 0 = .ok (.aload_n 0, 1) := by decide +kernel
theorem dX5_init_1 : decode cX5_init 1 = .ok (.invokespecial 1, 3) := by decide +kernel
theorem dX5_init_4 : decode cX5_init 4 = .ok (.aload_n 0, 1) := by decide +kernel
theorem dX5_init_5 : decode cX5_init 5 = .ok (.new 7, 3) := by decide +kernel
theorem dX5_init_8 : decode cX5_init 8 = .ok (.dup, 1) := by decide +kernel
theorem dX5_init_9 : decode cX5_init 9 = .ok (.invokespecial 9, 3) := by decide +kernel
theorem dX5_init_12 : decode cX5_init 12 = .ok (.putfield 10, 3) := by decide +kernel
theorem dX5_init_15 : decode cX5_init 15 = .ok (.aload_n 0, 1) := by decide +kernel
theorem dX5_init_16 : decode cX5_init 16 = .ok (.new 7, 3) := by decide +kernel
theorem dX5_init_19 : decode cX5_init 19 = .ok (.dup, 1) := by decide +kernel
theorem dX5_init_20 : decode cX5_init 20 = .ok (.invokespecial 9, 3) := by decide +kernel
theorem dX5_init_23 : decode cX5_init 23 = .ok (.putfield 16, 3) := by decide +kernel
theorem dX5_init_26 : decode cX5_init 26 = .ok (.aload_n 0, 1) := by decide +kernel
theorem dX5_init_27 : decode cX5_init 27 = .ok (.new 7, 3) := by decide +kernel
theorem dX5_init_30 : decode cX5_init 30 = .ok (.dup, 1) := by decide +kernel
theorem dX5_init_31 : decode cX5_init 31 = .ok (.invokespecial 9, 3) := by decide +kernel
theorem dX5_init_34 : decode cX5_init 34 = .ok (.putfield 19, 3) := by decide +kernel
theorem dX5_init_37 : decode cX5_init 37 = .ok (.aload_n 0, 1) := by decide +kernel
theorem dX5_init_38 : decode cX5_init 38 = .ok (.new 22, 3) := by decide +kernel
theorem dX5_init_41 : decode cX5_init 41 = .ok (.dup, 1) := by decide +kernel
theorem dX5_init_42 : decode cX5_init 42 = .ok (.invokespecial 24, 3) := by decide +kernel
theorem dX5_init_45 : decode cX5_init 45 = .ok (.putfield 25, 3) := by decide +kernel
theorem dX5_init_48 : decode cX5_init 48 = .ok (.aload_n 0, 1) := by decide +kernel
theorem dX5_init_49 : decode cX5_init 49 = .ok (.new 29, 3) := by decide +kernel
theorem dX5_init_52 : decode cX5_init 52 = .ok (.dup, 1) := by decide +kernel
theorem dX5_init_53 : decode cX5_init 53 = .ok (.invokespecial 31, 3) := by decide +kernel
theorem dX5_init_56 : decode cX5_init 56 = .ok (.putfield 32, 3) := by decide +kernel
theorem dX5_init_59 : decode cX5_init 59 = .ok (.aload_n 0, 1) := by decide +kernel
theorem dX5_init_60 : decode cX5_init 60 = .ok (.new 36, 3) := by decide +kernel
theorem dX5_init_63 : decode cX5_init 63 = .ok (.dup, 1) := by decide +kernel
theorem dX5_init_64 : decode cX5_init 64 = .ok (.invokespecial 38, 3) := by decide +kernel
theorem dX5_init_67 : decode cX5_init 67 = .ok (.putfield 39, 3) := by decide +kernel
theorem dX5_init_70 : decode cX5_init 70 = .ok (.aload_n 0, 1) := by decide +kernel
theorem dX5_init_71 : decode cX5_init 71 = .ok (.iconst 0, 1) := by decide +kernel
theorem dX5_init_72 : decode cX5_init 72 = .ok (.putfield 43, 3) := by decide +kernel
theorem dX5_init_75 : decode cX5_init 75 = .ok (.aload_n 0, 1) := by decide +kernel
theorem dX5_init_76 : decode cX5_init 76 = .ok (.iconst (-1), 1) := by decide +kernel
theorem dX5_init_77 : decode cX5_init 77 = .ok (.putfield 47, 3) := by decide +kernel
theorem dX5_init_80 : decode cX5_init 80 = .ok (.aload_n 0, 1) := by decide +kernel
theorem dX5_init_81 : decode cX5_init 81 = .ok (.iconst 0, 1) := by decide +kernel
theorem dX5_init_82 : decode cX5_init 82 = .ok (.putfield 51, 3) := by decide +kernel
theorem dX5_init_85 : decode cX5_init 85 = .ok (.aload_n 0, 1) := by decide +kernel
theorem dX5_init_86 : decode cX5_init 86 = .ok (.iconst 0, 1) := by decide +kernel
theorem dX5_init_87 : decode cX5_init 87 = .ok (.putfield 54, 3) := by decide +kernel
theorem dX5_init_90 : decode cX5_init 90 = .ok (.aload_n 0, 1) := by decide +kernel
theorem dX5_init_91 : decode cX5_init 91 = .ok (.iconst 0, 1) := by decide +kernel
theorem dX5_init_92 : decode cX5_init 92 = .ok (.putfield 57, 3) := by decide +kernel
theorem dX5_init_95 : decode cX5_init 95 = .ok (.aload_n 0, 1) := by decide +kernel
theorem dX5_init_96 : decode cX5_init 96 = .ok (.iconst 0, 1) := by decide +kernel
theorem dX5_init_97 : decode cX5_init 97 = .ok (.putfield 60, 3) := by decide +kernel
theorem dX5_init_100 : decode cX5_init 100 = .ok (.return_, 1) := by decide +kernel
theorem dX5_stake_0 : decode cX5_stake 0 = .ok (.aload_n 0, 1) := by decide +kernel
theorem dX5_stake_1 : decode cX5_stake 1 = .ok (.invokevirtual 63, 3) := by decide +kernel
theorem dX5_stake_4 : decode cX5_stake 4 = .ok (.aload_n 0, 1) := by decide +kernel
theorem dX5_stake_5 : decode cX5_stake 5 = .ok (.aload_n 0, 1) := by decide +kernel
theorem dX5_stake_6 : decode cX5_stake 6 = .ok (.iload_n 1, 1) := by decide +kernel
theorem dX5_stake_7 : decode cX5_stake 7 = .ok (.invokevirtual 66, 3) := by decide +kernel
theorem dX5_stake_10 : decode cX5_stake 10 = .ok (.invokevirtual 70, 3) := by decide +kernel
theorem dX5_stake_13 : decode cX5_stake 13 = .ok (.ireturn, 1) := by decide +kernel
theorem dX5_post_0 : decode cX5_post 0 = .ok (.aload_n 0, 1) := by decide +kernel
theorem dX5_post_1 : decode cX5_post 1 = .ok (.invokevirtual 63, 3) := by decide +kernel
theorem dX5_post_4 : decode cX5_post 4 = .ok (.aload_n 0, 1) := by decide +kernel
theorem dX5_post_5 : decode cX5_post 5 = .ok (.aload_n 0, 1) := by decide +kernel
theorem dX5_post_6 : decode cX5_post 6 = .ok (.iload_n 1, 1) := by decide +kernel
theorem dX5_post_7 : decode cX5_post 7 = .ok (.iload_n 2, 1) := by decide +kernel
theorem dX5_post_8 : decode cX5_post 8 = .ok (.invokevirtual 73, 3) := by decide +kernel
theorem dX5_post_11 : decode cX5_post 11 = .ok (.invokevirtual 70, 3) := by decide +kernel
theorem dX5_post_14 : decode cX5_post 14 = .ok (.ireturn, 1) := by decide +kernel
theorem dX5_sheet_0 : decode cX5_sheet 0 = .ok (.aload_n 0, 1) := by decide +kernel
theorem dX5_sheet_1 : decode cX5_sheet 1 = .ok (.invokevirtual 63, 3) := by decide +kernel
theorem dX5_sheet_4 : decode cX5_sheet 4 = .ok (.aload_n 0, 1) := by decide +kernel
theorem dX5_sheet_5 : decode cX5_sheet 5 = .ok (.aload_n 0, 1) := by decide +kernel
theorem dX5_sheet_6 : decode cX5_sheet 6 = .ok (.invokevirtual 77, 3) := by decide +kernel
theorem dX5_sheet_9 : decode cX5_sheet 9 = .ok (.invokevirtual 70, 3) := by decide +kernel
theorem dX5_sheet_12 : decode cX5_sheet 12 = .ok (.ireturn, 1) := by decide +kernel
theorem dX5_heat_0 : decode cX5_heat 0 = .ok (.aload_n 0, 1) := by decide +kernel
theorem dX5_heat_1 : decode cX5_heat 1 = .ok (.invokevirtual 63, 3) := by decide +kernel
theorem dX5_heat_4 : decode cX5_heat 4 = .ok (.aload_n 0, 1) := by decide +kernel
theorem dX5_heat_5 : decode cX5_heat 5 = .ok (.aload_n 0, 1) := by decide +kernel
theorem dX5_heat_6 : decode cX5_heat 6 = .ok (.iload_n 1, 1) := by decide +kernel
theorem dX5_heat_7 : decode cX5_heat 7 = .ok (.invokevirtual 81, 3) := by decide +kernel
theorem dX5_heat_10 : decode cX5_heat 10 = .ok (.invokevirtual 70, 3) := by decide +kernel
theorem dX5_heat_13 : decode cX5_heat 13 = .ok (.ireturn, 1) := by decide +kernel
theorem dX5_sight_0 : decode cX5_sight 0 = .ok (.aload_n 0, 1) := by decide +kernel
theorem dX5_sight_1 : decode cX5_sight 1 = .ok (.invokevirtual 63, 3) := by decide +kernel
theorem dX5_sight_4 : decode cX5_sight 4 = .ok (.aload_n 0, 1) := by decide +kernel
theorem dX5_sight_5 : decode cX5_sight 5 = .ok (.aload_n 0, 1) := by decide +kernel
theorem dX5_sight_6 : decode cX5_sight 6 = .ok (.iload_n 1, 1) := by decide +kernel
theorem dX5_sight_7 : decode cX5_sight 7 = .ok (.iload_n 2, 1) := by decide +kernel
theorem dX5_sight_8 : decode cX5_sight 8 = .ok (.iload_n 3, 1) := by decide +kernel
theorem dX5_sight_9 : decode cX5_sight 9 = .ok (.invokevirtual 84, 3) := by decide +kernel
theorem dX5_sight_12 : decode cX5_sight 12 = .ok (.invokevirtual 70, 3) := by decide +kernel
theorem dX5_sight_15 : decode cX5_sight 15 = .ok (.ireturn, 1) := by decide +kernel
theorem dX5_erase_0 : decode cX5_erase 0 = .ok (.aload_n 0, 1) := by decide +kernel
theorem dX5_erase_1 : decode cX5_erase 1 = .ok (.invokevirtual 63, 3) := by decide +kernel
theorem dX5_erase_4 : decode cX5_erase 4 = .ok (.aload_n 0, 1) := by decide +kernel
theorem dX5_erase_5 : decode cX5_erase 5 = .ok (.aload_n 0, 1) := by decide +kernel
theorem dX5_erase_6 : decode cX5_erase 6 = .ok (.iload_n 1, 1) := by decide +kernel
theorem dX5_erase_7 : decode cX5_erase 7 = .ok (.iload_n 2, 1) := by decide +kernel
theorem dX5_erase_8 : decode cX5_erase 8 = .ok (.invokevirtual 88, 3) := by decide +kernel
theorem dX5_erase_11 : decode cX5_erase 11 = .ok (.invokevirtual 70, 3) := by decide +kernel
theorem dX5_erase_14 : decode cX5_erase 14 = .ok (.ireturn, 1) := by decide +kernel
theorem dX5_camel_0 : decode cX5_camel 0 = .ok (.aload_n 0, 1) := by decide +kernel
theorem dX5_camel_1 : decode cX5_camel 1 = .ok (.invokevirtual 63, 3) := by decide +kernel
theorem dX5_camel_4 : decode cX5_camel 4 = .ok (.aload_n 0, 1) := by decide +kernel
theorem dX5_camel_5 : decode cX5_camel 5 = .ok (.aload_n 0, 1) := by decide +kernel
theorem dX5_camel_6 : decode cX5_camel 6 = .ok (.iload_n 1, 1) := by decide +kernel
theorem dX5_camel_7 : decode cX5_camel 7 = .ok (.invokevirtual 91, 3) := by decide +kernel
theorem dX5_camel_10 : decode cX5_camel 10 = .ok (.invokevirtual 70, 3) := by decide +kernel
theorem dX5_camel_13 : decode cX5_camel 13 = .ok (.ireturn, 1) := by decide +kernel
theorem dX5_bell_0 : decode cX5_bell 0 = .ok (.aload_n 0, 1) := by decide +kernel
theorem dX5_bell_1 : decode cX5_bell 1 = .ok (.invokevirtual 63, 3) := by decide +kernel
theorem dX5_bell_4 : decode cX5_bell 4 = .ok (.aload_n 0, 1) := by decide +kernel
theorem dX5_bell_5 : decode cX5_bell 5 = .ok (.aload_n 0, 1) := by decide +kernel
theorem dX5_bell_6 : decode cX5_bell 6 = .ok (.iload_n 1, 1) := by decide +kernel
theorem dX5_bell_7 : decode cX5_bell 7 = .ok (.invokevirtual 94, 3) := by decide +kernel
theorem dX5_bell_10 : decode cX5_bell 10 = .ok (.invokevirtual 70, 3) := by decide +kernel
theorem dX5_bell_13 : decode cX5_bell 13 = .ok (.ireturn, 1) := by decide +kernel
theorem dX5_tie_0 : decode cX5_tie 0 = .ok (.aload_n 0, 1) := by decide +kernel
theorem dX5_tie_1 : decode cX5_tie 1 = .ok (.invokevirtual 63, 3) := by decide +kernel
theorem dX5_tie_4 : decode cX5_tie 4 = .ok (.aload_n 0, 1) := by decide +kernel
theorem dX5_tie_5 : decode cX5_tie 5 = .ok (.aload_n 0, 1) := by decide +kernel
theorem dX5_tie_6 : decode cX5_tie 6 = .ok (.iload_n 1, 1) := by decide +kernel
theorem dX5_tie_7 : decode cX5_tie 7 = .ok (.invokevirtual 97, 3) := by decide +kernel
theorem dX5_tie_10 : decode cX5_tie 10 = .ok (.invokevirtual 70, 3) := by decide +kernel
theorem dX5_tie_13 : decode cX5_tie 13 = .ok (.ireturn, 1) := by decide +kernel
theorem dX5_loose_0 : decode cX5_loose 0 = .ok (.aload_n 0, 1) := by decide +kernel
theorem dX5_loose_1 : decode cX5_loose 1 = .ok (.invokevirtual 63, 3) := by decide +kernel
theorem dX5_loose_4 : decode cX5_loose 4 = .ok (.aload_n 0, 1) := by decide +kernel
theorem dX5_loose_5 : decode cX5_loose 5 = .ok (.aload_n 0, 1) := by decide +kernel
theorem dX5_loose_6 : decode cX5_loose 6 = .ok (.iload_n 1, 1) := by decide +kernel
theorem dX5_loose_7 : decode cX5_loose 7 = .ok (.invokevirtual 100, 3) := by decide +kernel
theorem dX5_loose_10 : decode cX5_loose 10 = .ok (.invokevirtual 70, 3) := by decide +kernel
theorem dX5_loose_13 : decode cX5_loose 13 = .ok (.ireturn, 1) := by decide +kernel
theorem dX5_drink_0 : decode cX5_drink 0 = .ok (.aload_n 0, 1) := by decide +kernel
theorem dX5_drink_1 : decode cX5_drink 1 = .ok (.invokevirtual 63, 3) := by decide +kernel
theorem dX5_drink_4 : decode cX5_drink 4 = .ok (.aload_n 0, 1) := by decide +kernel
theorem dX5_drink_5 : decode cX5_drink 5 = .ok (.aload_n 0, 1) := by decide +kernel
theorem dX5_drink_6 : decode cX5_drink 6 = .ok (.iload_n 1, 1) := by decide +kernel
theorem dX5_drink_7 : decode cX5_drink 7 = .ok (.invokevirtual 103, 3) := by decide +kernel
theorem dX5_drink_10 : decode cX5_drink 10 = .ok (.invokevirtual 70, 3) := by decide +kernel
theorem dX5_drink_13 : decode cX5_drink 13 = .ok (.ireturn, 1) := by decide +kernel
theorem dX5_water_0 : decode cX5_water 0 = .ok (.aload_n 0, 1) := by decide +kernel
theorem dX5_water_1 : decode cX5_water 1 = .ok (.invokevirtual 63, 3) := by decide +kernel
theorem dX5_water_4 : decode cX5_water 4 = .ok (.aload_n 0, 1) := by decide +kernel
theorem dX5_water_5 : decode cX5_water 5 = .ok (.aload_n 0, 1) := by decide +kernel
theorem dX5_water_6 : decode cX5_water 6 = .ok (.iload_n 1, 1) := by decide +kernel
theorem dX5_water_7 : decode cX5_water 7 = .ok (.invokevirtual 106, 3) := by decide +kernel
theorem dX5_water_10 : decode cX5_water 10 = .ok (.invokevirtual 70, 3) := by decide +kernel
theorem dX5_water_13 : decode cX5_water 13 = .ok (.ireturn, 1) := by decide +kernel
theorem dX5_hours_0 : decode cX5_hours 0 = .ok (.aload_n 0, 1) := by decide +kernel
theorem dX5_hours_1 : decode cX5_hours 1 = .ok (.invokevirtual 63, 3) := by decide +kernel
theorem dX5_hours_4 : decode cX5_hours 4 = .ok (.aload_n 0, 1) := by decide +kernel
theorem dX5_hours_5 : decode cX5_hours 5 = .ok (.aload_n 0, 1) := by decide +kernel
theorem dX5_hours_6 : decode cX5_hours 6 = .ok (.iload_n 1, 1) := by decide +kernel
theorem dX5_hours_7 : decode cX5_hours 7 = .ok (.invokevirtual 109, 3) := by decide +kernel
theorem dX5_hours_10 : decode cX5_hours 10 = .ok (.invokevirtual 70, 3) := by decide +kernel
theorem dX5_hours_13 : decode cX5_hours 13 = .ok (.ireturn, 1) := by decide +kernel
theorem dX5_stakeAt_0 : decode cX5_stakeAt 0 = .ok (.aload_n 0, 1) := by decide +kernel
theorem dX5_stakeAt_1 : decode cX5_stakeAt 1 = .ok (.iload_n 1, 1) := by decide +kernel
theorem dX5_stakeAt_2 : decode cX5_stakeAt 2 = .ok (.invokevirtual 112, 3) := by decide +kernel
theorem dX5_stakeAt_5 : decode cX5_stakeAt 5 = .ok (.aload_n 0, 1) := by decide +kernel
theorem dX5_stakeAt_6 : decode cX5_stakeAt 6 = .ok (.getfield 10, 3) := by decide +kernel
theorem dX5_stakeAt_9 : decode cX5_stakeAt 9 = .ok (.getfield 116, 3) := by decide +kernel
theorem dX5_stakeAt_12 : decode cX5_stakeAt 12 = .ok (.iload_n 1, 1) := by decide +kernel
theorem dX5_stakeAt_13 : decode cX5_stakeAt 13 = .ok (.invokevirtual 120, 3) := by decide +kernel
theorem dX5_stakeAt_16 : decode cX5_stakeAt 16 = .ok (.ireturn, 1) := by decide +kernel
theorem dX5_postOf_0 : decode cX5_postOf 0 = .ok (.aload_n 0, 1) := by decide +kernel
theorem dX5_postOf_1 : decode cX5_postOf 1 = .ok (.iload_n 1, 1) := by decide +kernel
theorem dX5_postOf_2 : decode cX5_postOf 2 = .ok (.invokevirtual 125, 3) := by decide +kernel
theorem dX5_postOf_5 : decode cX5_postOf 5 = .ok (.iload_n 2, 1) := by decide +kernel
theorem dX5_postOf_6 : decode cX5_postOf 6 = .ok (.ifCond .eq 17, 3) := by decide +kernel
theorem dX5_postOf_9 : decode cX5_postOf 9 = .ok (.aload_n 0, 1) := by decide +kernel
theorem dX5_postOf_10 : decode cX5_postOf 10 = .ok (.getfield 10, 3) := by decide +kernel
theorem dX5_postOf_13 : decode cX5_postOf 13 = .ok (.getfield 128, 3) := by decide +kernel
theorem dX5_postOf_16 : decode cX5_postOf 16 = .ok (.iload_n 1, 1) := by decide +kernel
theorem dX5_postOf_17 : decode cX5_postOf 17 = .ok (.invokevirtual 120, 3) := by decide +kernel
theorem dX5_postOf_20 : decode cX5_postOf 20 = .ok (.goto 14, 3) := by decide +kernel
theorem dX5_postOf_23 : decode cX5_postOf 23 = .ok (.aload_n 0, 1) := by decide +kernel
theorem dX5_postOf_24 : decode cX5_postOf 24 = .ok (.getfield 10, 3) := by decide +kernel
theorem dX5_postOf_27 : decode cX5_postOf 27 = .ok (.getfield 131, 3) := by decide +kernel
theorem dX5_postOf_30 : decode cX5_postOf 30 = .ok (.iload_n 1, 1) := by decide +kernel
theorem dX5_postOf_31 : decode cX5_postOf 31 = .ok (.invokevirtual 120, 3) := by decide +kernel
theorem dX5_postOf_34 : decode cX5_postOf 34 = .ok (.ireturn, 1) := by decide +kernel
theorem dX5_camelOf_0 : decode cX5_camelOf 0 = .ok (.aload_n 0, 1) := by decide +kernel
theorem dX5_camelOf_1 : decode cX5_camelOf 1 = .ok (.iload_n 1, 1) := by decide +kernel
theorem dX5_camelOf_2 : decode cX5_camelOf 2 = .ok (.invokevirtual 134, 3) := by decide +kernel
theorem dX5_camelOf_5 : decode cX5_camelOf 5 = .ok (.iload_n 2, 1) := by decide +kernel
theorem dX5_camelOf_6 : decode cX5_camelOf 6 = .ok (.tableswitch 99 0 4 #[34, 46, 58, 70, 87], 34) := by decide +kernel
theorem dX5_camelOf_40 : decode cX5_camelOf 40 = .ok (.aload_n 0, 1) := by decide +kernel
theorem dX5_camelOf_41 : decode cX5_camelOf 41 = .ok (.getfield 10, 3) := by decide +kernel
theorem dX5_camelOf_44 : decode cX5_camelOf 44 = .ok (.getfield 137, 3) := by decide +kernel
theorem dX5_camelOf_47 : decode cX5_camelOf 47 = .ok (.iload_n 1, 1) := by decide +kernel
theorem dX5_camelOf_48 : decode cX5_camelOf 48 = .ok (.invokevirtual 120, 3) := by decide +kernel
theorem dX5_camelOf_51 : decode cX5_camelOf 51 = .ok (.ireturn, 1) := by decide +kernel
theorem dX5_camelOf_52 : decode cX5_camelOf 52 = .ok (.aload_n 0, 1) := by decide +kernel
theorem dX5_camelOf_53 : decode cX5_camelOf 53 = .ok (.getfield 10, 3) := by decide +kernel
theorem dX5_camelOf_56 : decode cX5_camelOf 56 = .ok (.getfield 140, 3) := by decide +kernel
theorem dX5_camelOf_59 : decode cX5_camelOf 59 = .ok (.iload_n 1, 1) := by decide +kernel
theorem dX5_camelOf_60 : decode cX5_camelOf 60 = .ok (.invokevirtual 120, 3) := by decide +kernel
theorem dX5_camelOf_63 : decode cX5_camelOf 63 = .ok (.ireturn, 1) := by decide +kernel
theorem dX5_camelOf_64 : decode cX5_camelOf 64 = .ok (.aload_n 0, 1) := by decide +kernel
theorem dX5_camelOf_65 : decode cX5_camelOf 65 = .ok (.getfield 10, 3) := by decide +kernel
theorem dX5_camelOf_68 : decode cX5_camelOf 68 = .ok (.getfield 143, 3) := by decide +kernel
theorem dX5_camelOf_71 : decode cX5_camelOf 71 = .ok (.iload_n 1, 1) := by decide +kernel
theorem dX5_camelOf_72 : decode cX5_camelOf 72 = .ok (.invokevirtual 120, 3) := by decide +kernel
theorem dX5_camelOf_75 : decode cX5_camelOf 75 = .ok (.ireturn, 1) := by decide +kernel
theorem dX5_camelOf_76 : decode cX5_camelOf 76 = .ok (.aload_n 0, 1) := by decide +kernel
theorem dX5_camelOf_77 : decode cX5_camelOf 77 = .ok (.getfield 10, 3) := by decide +kernel
theorem dX5_camelOf_80 : decode cX5_camelOf 80 = .ok (.iload_n 1, 1) := by decide +kernel
theorem dX5_camelOf_81 : decode cX5_camelOf 81 = .ok (.invokevirtual 146, 3) := by decide +kernel
theorem dX5_camelOf_84 : decode cX5_camelOf 84 = .ok (.ifCond .eq 7, 3) := by decide +kernel
theorem dX5_camelOf_87 : decode cX5_camelOf 87 = .ok (.iconst 1, 1) := by decide +kernel
theorem dX5_camelOf_88 : decode cX5_camelOf 88 = .ok (.goto 4, 3) := by decide +kernel
theorem dX5_camelOf_91 : decode cX5_camelOf 91 = .ok (.iconst 0, 1) := by decide +kernel
theorem dX5_camelOf_92 : decode cX5_camelOf 92 = .ok (.ireturn, 1) := by decide +kernel
theorem dX5_camelOf_93 : decode cX5_camelOf 93 = .ok (.aload_n 0, 1) := by decide +kernel
theorem dX5_camelOf_94 : decode cX5_camelOf 94 = .ok (.getfield 10, 3) := by decide +kernel
theorem dX5_camelOf_97 : decode cX5_camelOf 97 = .ok (.getfield 150, 3) := by decide +kernel
theorem dX5_camelOf_100 : decode cX5_camelOf 100 = .ok (.iload_n 1, 1) := by decide +kernel
theorem dX5_camelOf_101 : decode cX5_camelOf 101 = .ok (.invokevirtual 120, 3) := by decide +kernel
theorem dX5_camelOf_104 : decode cX5_camelOf 104 = .ok (.ireturn, 1) := by decide +kernel
theorem dX5_camelOf_105 : decode cX5_camelOf 105 = .ok (.new 153, 3) := by decide +kernel
theorem dX5_camelOf_108 : decode cX5_camelOf 108 = .ok (.dup, 1) := by decide +kernel
theorem dX5_camelOf_109 : decode cX5_camelOf 109 = .ok (.ldc 155, 2) := by decide +kernel
theorem dX5_camelOf_111 : decode cX5_camelOf 111 = .ok (.invokespecial 157, 3) := by decide +kernel
theorem dX5_camelOf_114 : decode cX5_camelOf 114 = .ok (.athrow, 1) := by decide +kernel
theorem dX5_drawnAt_0 : decode cX5_drawnAt 0 = .ok (.aload_n 0, 1) := by decide +kernel
theorem dX5_drawnAt_1 : decode cX5_drawnAt 1 = .ok (.iload_n 1, 1) := by decide +kernel
theorem dX5_drawnAt_2 : decode cX5_drawnAt 2 = .ok (.invokevirtual 112, 3) := by decide +kernel
theorem dX5_drawnAt_5 : decode cX5_drawnAt 5 = .ok (.aload_n 0, 1) := by decide +kernel
theorem dX5_drawnAt_6 : decode cX5_drawnAt 6 = .ok (.iload_n 2, 1) := by decide +kernel
theorem dX5_drawnAt_7 : decode cX5_drawnAt 7 = .ok (.invokevirtual 160, 3) := by decide +kernel
theorem dX5_drawnAt_10 : decode cX5_drawnAt 10 = .ok (.aload_n 0, 1) := by decide +kernel
theorem dX5_drawnAt_11 : decode cX5_drawnAt 11 = .ok (.getfield 10, 3) := by decide +kernel
theorem dX5_drawnAt_14 : decode cX5_drawnAt 14 = .ok (.iload_n 1, 1) := by decide +kernel
theorem dX5_drawnAt_15 : decode cX5_drawnAt 15 = .ok (.iload_n 2, 1) := by decide +kernel
theorem dX5_drawnAt_16 : decode cX5_drawnAt 16 = .ok (.invokevirtual 163, 3) := by decide +kernel
theorem dX5_drawnAt_19 : decode cX5_drawnAt 19 = .ok (.istore_n 3, 1) := by decide +kernel
theorem dX5_drawnAt_20 : decode cX5_drawnAt 20 = .ok (.iload_n 3, 1) := by decide +kernel
theorem dX5_drawnAt_21 : decode cX5_drawnAt 21 = .ok (.iconst (-1), 1) := by decide +kernel
theorem dX5_drawnAt_22 : decode cX5_drawnAt 22 = .ok (.if_icmp .ne 13, 3) := by decide +kernel
theorem dX5_drawnAt_25 : decode cX5_drawnAt 25 = .ok (.new 166, 3) := by decide +kernel
theorem dX5_drawnAt_28 : decode cX5_drawnAt 28 = .ok (.dup, 1) := by decide +kernel
theorem dX5_drawnAt_29 : decode cX5_drawnAt 29 = .ok (.ldc 168, 2) := by decide +kernel
theorem dX5_drawnAt_31 : decode cX5_drawnAt 31 = .ok (.invokespecial 170, 3) := by decide +kernel
theorem dX5_drawnAt_34 : decode cX5_drawnAt 34 = .ok (.athrow, 1) := by decide +kernel
theorem dX5_drawnAt_35 : decode cX5_drawnAt 35 = .ok (.iload_n 3, 1) := by decide +kernel
theorem dX5_drawnAt_36 : decode cX5_drawnAt 36 = .ok (.ireturn, 1) := by decide +kernel
theorem dX5_wrongBy_0 : decode cX5_wrongBy 0 = .ok (.aload_n 0, 1) := by decide +kernel
theorem dX5_wrongBy_1 : decode cX5_wrongBy 1 = .ok (.iload_n 1, 1) := by decide +kernel
theorem dX5_wrongBy_2 : decode cX5_wrongBy 2 = .ok (.invokevirtual 160, 3) := by decide +kernel
theorem dX5_wrongBy_5 : decode cX5_wrongBy 5 = .ok (.iconst 0, 1) := by decide +kernel
theorem dX5_wrongBy_6 : decode cX5_wrongBy 6 = .ok (.istore_n 2, 1) := by decide +kernel
theorem dX5_wrongBy_7 : decode cX5_wrongBy 7 = .ok (.iconst 0, 1) := by decide +kernel
theorem dX5_wrongBy_8 : decode cX5_wrongBy 8 = .ok (.istore_n 3, 1) := by decide +kernel
theorem dX5_wrongBy_9 : decode cX5_wrongBy 9 = .ok (.iload_n 3, 1) := by decide +kernel
theorem dX5_wrongBy_10 : decode cX5_wrongBy 10 = .ok (.aload_n 0, 1) := by decide +kernel
theorem dX5_wrongBy_11 : decode cX5_wrongBy 11 = .ok (.getfield 10, 3) := by decide +kernel
theorem dX5_wrongBy_14 : decode cX5_wrongBy 14 = .ok (.getfield 116, 3) := by decide +kernel
theorem dX5_wrongBy_17 : decode cX5_wrongBy 17 = .ok (.invokevirtual 171, 3) := by decide +kernel
theorem dX5_wrongBy_20 : decode cX5_wrongBy 20 = .ok (.if_icmp .ge 50, 3) := by decide +kernel
theorem dX5_wrongBy_23 : decode cX5_wrongBy 23 = .ok (.aload_n 0, 1) := by decide +kernel
theorem dX5_wrongBy_24 : decode cX5_wrongBy 24 = .ok (.getfield 10, 3) := by decide +kernel
theorem dX5_wrongBy_27 : decode cX5_wrongBy 27 = .ok (.iload_n 3, 1) := by decide +kernel
theorem dX5_wrongBy_28 : decode cX5_wrongBy 28 = .ok (.iload_n 1, 1) := by decide +kernel
theorem dX5_wrongBy_29 : decode cX5_wrongBy 29 = .ok (.invokevirtual 163, 3) := by decide +kernel
theorem dX5_wrongBy_32 : decode cX5_wrongBy 32 = .ok (.istore 4, 2) := by decide +kernel
theorem dX5_wrongBy_34 : decode cX5_wrongBy 34 = .ok (.iload_n 2, 1) := by decide +kernel
theorem dX5_wrongBy_35 : decode cX5_wrongBy 35 = .ok (.iload 4, 2) := by decide +kernel
theorem dX5_wrongBy_37 : decode cX5_wrongBy 37 = .ok (.iconst (-1), 1) := by decide +kernel
theorem dX5_wrongBy_38 : decode cX5_wrongBy 38 = .ok (.if_icmp .ne 7, 3) := by decide +kernel
theorem dX5_wrongBy_41 : decode cX5_wrongBy 41 = .ok (.iconst 0, 1) := by decide +kernel
theorem dX5_wrongBy_42 : decode cX5_wrongBy 42 = .ok (.goto 20, 3) := by decide +kernel
theorem dX5_wrongBy_45 : decode cX5_wrongBy 45 = .ok (.iload 4, 2) := by decide +kernel
theorem dX5_wrongBy_47 : decode cX5_wrongBy 47 = .ok (.aload_n 0, 1) := by decide +kernel
theorem dX5_wrongBy_48 : decode cX5_wrongBy 48 = .ok (.getfield 10, 3) := by decide +kernel
theorem dX5_wrongBy_51 : decode cX5_wrongBy 51 = .ok (.getfield 116, 3) := by decide +kernel
theorem dX5_wrongBy_54 : decode cX5_wrongBy 54 = .ok (.iload_n 3, 1) := by decide +kernel
theorem dX5_wrongBy_55 : decode cX5_wrongBy 55 = .ok (.invokevirtual 120, 3) := by decide +kernel
theorem dX5_wrongBy_58 : decode cX5_wrongBy 58 = .ok (.isub, 1) := by decide +kernel
theorem dX5_wrongBy_59 : decode cX5_wrongBy 59 = .ok (.invokestatic 174, 3) := by decide +kernel
theorem dX5_wrongBy_62 : decode cX5_wrongBy 62 = .ok (.iadd, 1) := by decide +kernel
theorem dX5_wrongBy_63 : decode cX5_wrongBy 63 = .ok (.istore_n 2, 1) := by decide +kernel
theorem dX5_wrongBy_64 : decode cX5_wrongBy 64 = .ok (.iinc 3 1, 3) := by decide +kernel
theorem dX5_wrongBy_67 : decode cX5_wrongBy 67 = .ok (.goto (-58), 3) := by decide +kernel
theorem dX5_wrongBy_70 : decode cX5_wrongBy 70 = .ok (.iload_n 2, 1) := by decide +kernel
theorem dX5_wrongBy_71 : decode cX5_wrongBy 71 = .ok (.ireturn, 1) := by decide +kernel
theorem dX5_seems_0 : decode cX5_seems 0 = .ok (.aload_n 0, 1) := by decide +kernel
theorem dX5_seems_1 : decode cX5_seems 1 = .ok (.iload_n 1, 1) := by decide +kernel
theorem dX5_seems_2 : decode cX5_seems 2 = .ok (.invokevirtual 112, 3) := by decide +kernel
theorem dX5_seems_5 : decode cX5_seems 5 = .ok (.aload_n 0, 1) := by decide +kernel
theorem dX5_seems_6 : decode cX5_seems 6 = .ok (.iload_n 2, 1) := by decide +kernel
theorem dX5_seems_7 : decode cX5_seems 7 = .ok (.invokevirtual 125, 3) := by decide +kernel
theorem dX5_seems_10 : decode cX5_seems 10 = .ok (.aload_n 0, 1) := by decide +kernel
theorem dX5_seems_11 : decode cX5_seems 11 = .ok (.getfield 10, 3) := by decide +kernel
theorem dX5_seems_14 : decode cX5_seems 14 = .ok (.iload_n 1, 1) := by decide +kernel
theorem dX5_seems_15 : decode cX5_seems 15 = .ok (.iload_n 2, 1) := by decide +kernel
theorem dX5_seems_16 : decode cX5_seems 16 = .ok (.invokevirtual 179, 3) := by decide +kernel
theorem dX5_seems_19 : decode cX5_seems 19 = .ok (.ireturn, 1) := by decide +kernel
theorem dX5_seemsAgain_0 : decode cX5_seemsAgain 0 = .ok (.aload_n 0, 1) := by decide +kernel
theorem dX5_seemsAgain_1 : decode cX5_seemsAgain 1 = .ok (.iload_n 1, 1) := by decide +kernel
theorem dX5_seemsAgain_2 : decode cX5_seemsAgain 2 = .ok (.invokevirtual 112, 3) := by decide +kernel
theorem dX5_seemsAgain_5 : decode cX5_seemsAgain 5 = .ok (.aload_n 0, 1) := by decide +kernel
theorem dX5_seemsAgain_6 : decode cX5_seemsAgain 6 = .ok (.iload_n 2, 1) := by decide +kernel
theorem dX5_seemsAgain_7 : decode cX5_seemsAgain 7 = .ok (.invokevirtual 125, 3) := by decide +kernel
theorem dX5_seemsAgain_10 : decode cX5_seemsAgain 10 = .ok (.aload_n 0, 1) := by decide +kernel
theorem dX5_seemsAgain_11 : decode cX5_seemsAgain 11 = .ok (.getfield 10, 3) := by decide +kernel
theorem dX5_seemsAgain_14 : decode cX5_seemsAgain 14 = .ok (.iload_n 1, 1) := by decide +kernel
theorem dX5_seemsAgain_15 : decode cX5_seemsAgain 15 = .ok (.iload_n 2, 1) := by decide +kernel
theorem dX5_seemsAgain_16 : decode cX5_seemsAgain 16 = .ok (.invokevirtual 182, 3) := by decide +kernel
theorem dX5_seemsAgain_19 : decode cX5_seemsAgain 19 = .ok (.ireturn, 1) := by decide +kernel
theorem dX5_shimmers_0 : decode cX5_shimmers 0 = .ok (.aload_n 0, 1) := by decide +kernel
theorem dX5_shimmers_1 : decode cX5_shimmers 1 = .ok (.iload_n 1, 1) := by decide +kernel
theorem dX5_shimmers_2 : decode cX5_shimmers 2 = .ok (.invokevirtual 112, 3) := by decide +kernel
theorem dX5_shimmers_5 : decode cX5_shimmers 5 = .ok (.aload_n 0, 1) := by decide +kernel
theorem dX5_shimmers_6 : decode cX5_shimmers 6 = .ok (.iload_n 2, 1) := by decide +kernel
theorem dX5_shimmers_7 : decode cX5_shimmers 7 = .ok (.invokevirtual 125, 3) := by decide +kernel
theorem dX5_shimmers_10 : decode cX5_shimmers 10 = .ok (.aload_n 0, 1) := by decide +kernel
theorem dX5_shimmers_11 : decode cX5_shimmers 11 = .ok (.getfield 10, 3) := by decide +kernel
theorem dX5_shimmers_14 : decode cX5_shimmers 14 = .ok (.iload_n 1, 1) := by decide +kernel
theorem dX5_shimmers_15 : decode cX5_shimmers 15 = .ok (.iload_n 2, 1) := by decide +kernel
theorem dX5_shimmers_16 : decode cX5_shimmers 16 = .ok (.aload_n 0, 1) := by decide +kernel
theorem dX5_shimmers_17 : decode cX5_shimmers 17 = .ok (.getfield 10, 3) := by decide +kernel
theorem dX5_shimmers_20 : decode cX5_shimmers 20 = .ok (.invokevirtual 185, 3) := by decide +kernel
theorem dX5_shimmers_23 : decode cX5_shimmers 23 = .ok (.invokevirtual 188, 3) := by decide +kernel
theorem dX5_shimmers_26 : decode cX5_shimmers 26 = .ok (.ireturn, 1) := by decide +kernel
theorem dX5_bestPost_0 : decode cX5_bestPost 0 = .ok (.aload_n 0, 1) := by decide +kernel
theorem dX5_bestPost_1 : decode cX5_bestPost 1 = .ok (.iload_n 1, 1) := by decide +kernel
theorem dX5_bestPost_2 : decode cX5_bestPost 2 = .ok (.invokevirtual 112, 3) := by decide +kernel
theorem dX5_bestPost_5 : decode cX5_bestPost 5 = .ok (.aload_n 0, 1) := by decide +kernel
theorem dX5_bestPost_6 : decode cX5_bestPost 6 = .ok (.getfield 10, 3) := by decide +kernel
theorem dX5_bestPost_9 : decode cX5_bestPost 9 = .ok (.iload_n 1, 1) := by decide +kernel
theorem dX5_bestPost_10 : decode cX5_bestPost 10 = .ok (.invokevirtual 192, 3) := by decide +kernel
theorem dX5_bestPost_13 : decode cX5_bestPost 13 = .ok (.istore_n 2, 1) := by decide +kernel
theorem dX5_bestPost_14 : decode cX5_bestPost 14 = .ok (.iload_n 2, 1) := by decide +kernel
theorem dX5_bestPost_15 : decode cX5_bestPost 15 = .ok (.iconst (-1), 1) := by decide +kernel
theorem dX5_bestPost_16 : decode cX5_bestPost 16 = .ok (.if_icmp .ne 13, 3) := by decide +kernel
theorem dX5_bestPost_19 : decode cX5_bestPost 19 = .ok (.new 166, 3) := by decide +kernel
theorem dX5_bestPost_22 : decode cX5_bestPost 22 = .ok (.dup, 1) := by decide +kernel
theorem dX5_bestPost_23 : decode cX5_bestPost 23 = .ok (.ldc 195, 2) := by decide +kernel
theorem dX5_bestPost_25 : decode cX5_bestPost 25 = .ok (.invokespecial 170, 3) := by decide +kernel
theorem dX5_bestPost_28 : decode cX5_bestPost 28 = .ok (.athrow, 1) := by decide +kernel
theorem dX5_bestPost_29 : decode cX5_bestPost 29 = .ok (.iload_n 2, 1) := by decide +kernel
theorem dX5_bestPost_30 : decode cX5_bestPost 30 = .ok (.ireturn, 1) := by decide +kernel
theorem dX5_clearIn_0 : decode cX5_clearIn 0 = .ok (.aload_n 0, 1) := by decide +kernel
theorem dX5_clearIn_1 : decode cX5_clearIn 1 = .ok (.iload_n 1, 1) := by decide +kernel
theorem dX5_clearIn_2 : decode cX5_clearIn 2 = .ok (.invokevirtual 112, 3) := by decide +kernel
theorem dX5_clearIn_5 : decode cX5_clearIn 5 = .ok (.aload_n 0, 1) := by decide +kernel
theorem dX5_clearIn_6 : decode cX5_clearIn 6 = .ok (.iload_n 2, 1) := by decide +kernel
theorem dX5_clearIn_7 : decode cX5_clearIn 7 = .ok (.invokevirtual 125, 3) := by decide +kernel
theorem dX5_clearIn_10 : decode cX5_clearIn 10 = .ok (.aload_n 0, 1) := by decide +kernel
theorem dX5_clearIn_11 : decode cX5_clearIn 11 = .ok (.getfield 10, 3) := by decide +kernel
theorem dX5_clearIn_14 : decode cX5_clearIn 14 = .ok (.iload_n 1, 1) := by decide +kernel
theorem dX5_clearIn_15 : decode cX5_clearIn 15 = .ok (.iload_n 2, 1) := by decide +kernel
theorem dX5_clearIn_16 : decode cX5_clearIn 16 = .ok (.invokevirtual 197, 3) := by decide +kernel
theorem dX5_clearIn_19 : decode cX5_clearIn 19 = .ok (.istore_n 3, 1) := by decide +kernel
theorem dX5_clearIn_20 : decode cX5_clearIn 20 = .ok (.iload_n 3, 1) := by decide +kernel
theorem dX5_clearIn_21 : decode cX5_clearIn 21 = .ok (.iconst (-1), 1) := by decide +kernel
theorem dX5_clearIn_22 : decode cX5_clearIn 22 = .ok (.if_icmp .ne 13, 3) := by decide +kernel
theorem dX5_clearIn_25 : decode cX5_clearIn 25 = .ok (.new 166, 3) := by decide +kernel
theorem dX5_clearIn_28 : decode cX5_clearIn 28 = .ok (.dup, 1) := by decide +kernel
theorem dX5_clearIn_29 : decode cX5_clearIn 29 = .ok (.ldc 200, 2) := by decide +kernel
theorem dX5_clearIn_31 : decode cX5_clearIn 31 = .ok (.invokespecial 170, 3) := by decide +kernel
theorem dX5_clearIn_34 : decode cX5_clearIn 34 = .ok (.athrow, 1) := by decide +kernel
theorem dX5_clearIn_35 : decode cX5_clearIn 35 = .ok (.iload_n 3, 1) := by decide +kernel
theorem dX5_clearIn_36 : decode cX5_clearIn 36 = .ok (.ireturn, 1) := by decide +kernel
theorem dX5_heatIn_0 : decode cX5_heatIn 0 = .ok (.iload_n 1, 1) := by decide +kernel
theorem dX5_heatIn_1 : decode cX5_heatIn 1 = .ok (.ifCond .lt 9, 3) := by decide +kernel
theorem dX5_heatIn_4 : decode cX5_heatIn 4 = .ok (.iload_n 1, 1) := by decide +kernel
theorem dX5_heatIn_5 : decode cX5_heatIn 5 = .ok (.bipush 48, 2) := by decide +kernel
theorem dX5_heatIn_7 : decode cX5_heatIn 7 = .ok (.if_icmp .lt 13, 3) := by decide +kernel
theorem dX5_heatIn_10 : decode cX5_heatIn 10 = .ok (.new 153, 3) := by decide +kernel
theorem dX5_heatIn_13 : decode cX5_heatIn 13 = .ok (.dup, 1) := by decide +kernel
theorem dX5_heatIn_14 : decode cX5_heatIn 14 = .ok (.ldc 202, 2) := by decide +kernel
theorem dX5_heatIn_16 : decode cX5_heatIn 16 = .ok (.invokespecial 157, 3) := by decide +kernel
theorem dX5_heatIn_19 : decode cX5_heatIn 19 = .ok (.athrow, 1) := by decide +kernel
theorem dX5_heatIn_20 : decode cX5_heatIn 20 = .ok (.aload_n 0, 1) := by decide +kernel
theorem dX5_heatIn_21 : decode cX5_heatIn 21 = .ok (.getfield 10, 3) := by decide +kernel
theorem dX5_heatIn_24 : decode cX5_heatIn 24 = .ok (.aload_n 0, 1) := by decide +kernel
theorem dX5_heatIn_25 : decode cX5_heatIn 25 = .ok (.getfield 10, 3) := by decide +kernel
theorem dX5_heatIn_28 : decode cX5_heatIn 28 = .ok (.getfield 204, 3) := by decide +kernel
theorem dX5_heatIn_31 : decode cX5_heatIn 31 = .ok (.iload_n 1, 1) := by decide +kernel
theorem dX5_heatIn_32 : decode cX5_heatIn 32 = .ok (.iadd, 1) := by decide +kernel
theorem dX5_heatIn_33 : decode cX5_heatIn 33 = .ok (.invokevirtual 207, 3) := by decide +kernel
theorem dX5_heatIn_36 : decode cX5_heatIn 36 = .ok (.ireturn, 1) := by decide +kernel
theorem dX5_lostIn_0 : decode cX5_lostIn 0 = .ok (.aload_n 0, 1) := by decide +kernel
theorem dX5_lostIn_1 : decode cX5_lostIn 1 = .ok (.iload_n 1, 1) := by decide +kernel
theorem dX5_lostIn_2 : decode cX5_lostIn 2 = .ok (.invokevirtual 134, 3) := by decide +kernel
theorem dX5_lostIn_5 : decode cX5_lostIn 5 = .ok (.aload_n 0, 1) := by decide +kernel
theorem dX5_lostIn_6 : decode cX5_lostIn 6 = .ok (.getfield 10, 3) := by decide +kernel
theorem dX5_lostIn_9 : decode cX5_lostIn 9 = .ok (.iload_n 1, 1) := by decide +kernel
theorem dX5_lostIn_10 : decode cX5_lostIn 10 = .ok (.invokevirtual 210, 3) := by decide +kernel
theorem dX5_lostIn_13 : decode cX5_lostIn 13 = .ok (.istore_n 2, 1) := by decide +kernel
theorem dX5_lostIn_14 : decode cX5_lostIn 14 = .ok (.iload_n 2, 1) := by decide +kernel
theorem dX5_lostIn_15 : decode cX5_lostIn 15 = .ok (.iconst (-1), 1) := by decide +kernel
theorem dX5_lostIn_16 : decode cX5_lostIn 16 = .ok (.if_icmp .ne 13, 3) := by decide +kernel
theorem dX5_lostIn_19 : decode cX5_lostIn 19 = .ok (.new 166, 3) := by decide +kernel
theorem dX5_lostIn_22 : decode cX5_lostIn 22 = .ok (.dup, 1) := by decide +kernel
theorem dX5_lostIn_23 : decode cX5_lostIn 23 = .ok (.ldc 213, 2) := by decide +kernel
theorem dX5_lostIn_25 : decode cX5_lostIn 25 = .ok (.invokespecial 170, 3) := by decide +kernel
theorem dX5_lostIn_28 : decode cX5_lostIn 28 = .ok (.athrow, 1) := by decide +kernel
theorem dX5_lostIn_29 : decode cX5_lostIn 29 = .ok (.iload_n 2, 1) := by decide +kernel
theorem dX5_lostIn_30 : decode cX5_lostIn 30 = .ok (.ireturn, 1) := by decide +kernel
theorem dX5_nearest_0 : decode cX5_nearest 0 = .ok (.iload_n 1, 1) := by decide +kernel
theorem dX5_nearest_1 : decode cX5_nearest 1 = .ok (.invokestatic 215, 3) := by decide +kernel
theorem dX5_nearest_4 : decode cX5_nearest 4 = .ok (.ifCond .ne 13, 3) := by decide +kernel
theorem dX5_nearest_7 : decode cX5_nearest 7 = .ok (.new 153, 3) := by decide +kernel
theorem dX5_nearest_10 : decode cX5_nearest 10 = .ok (.dup, 1) := by decide +kernel
theorem dX5_nearest_11 : decode cX5_nearest 11 = .ok (.ldc 218, 2) := by decide +kernel
theorem dX5_nearest_13 : decode cX5_nearest 13 = .ok (.invokespecial 157, 3) := by decide +kernel
theorem dX5_nearest_16 : decode cX5_nearest 16 = .ok (.athrow, 1) := by decide +kernel
theorem dX5_nearest_17 : decode cX5_nearest 17 = .ok (.aload_n 0, 1) := by decide +kernel
theorem dX5_nearest_18 : decode cX5_nearest 18 = .ok (.getfield 10, 3) := by decide +kernel
theorem dX5_nearest_21 : decode cX5_nearest 21 = .ok (.iload_n 1, 1) := by decide +kernel
theorem dX5_nearest_22 : decode cX5_nearest 22 = .ok (.invokevirtual 220, 3) := by decide +kernel
theorem dX5_nearest_25 : decode cX5_nearest 25 = .ok (.istore_n 2, 1) := by decide +kernel
theorem dX5_nearest_26 : decode cX5_nearest 26 = .ok (.iload_n 2, 1) := by decide +kernel
theorem dX5_nearest_27 : decode cX5_nearest 27 = .ok (.iconst (-1), 1) := by decide +kernel
theorem dX5_nearest_28 : decode cX5_nearest 28 = .ok (.if_icmp .ne 13, 3) := by decide +kernel
theorem dX5_nearest_31 : decode cX5_nearest 31 = .ok (.new 166, 3) := by decide +kernel
theorem dX5_nearest_34 : decode cX5_nearest 34 = .ok (.dup, 1) := by decide +kernel
theorem dX5_nearest_35 : decode cX5_nearest 35 = .ok (.ldc 223, 2) := by decide +kernel
theorem dX5_nearest_37 : decode cX5_nearest 37 = .ok (.invokespecial 170, 3) := by decide +kernel
theorem dX5_nearest_40 : decode cX5_nearest 40 = .ok (.athrow, 1) := by decide +kernel
theorem dX5_nearest_41 : decode cX5_nearest 41 = .ok (.iload_n 2, 1) := by decide +kernel
theorem dX5_nearest_42 : decode cX5_nearest 42 = .ok (.ireturn, 1) := by decide +kernel
theorem dX5_append_0 : decode cX5_append 0 = .ok (.aload_n 0, 1) := by decide +kernel
theorem dX5_append_1 : decode cX5_append 1 = .ok (.getfield 32, 3) := by decide +kernel
theorem dX5_append_4 : decode cX5_append 4 = .ok (.invokevirtual 225, 3) := by decide +kernel
theorem dX5_append_7 : decode cX5_append 7 = .ok (.ifCond .eq 13, 3) := by decide +kernel
theorem dX5_append_10 : decode cX5_append 10 = .ok (.new 229, 3) := by decide +kernel
theorem dX5_append_13 : decode cX5_append 13 = .ok (.dup, 1) := by decide +kernel
theorem dX5_append_14 : decode cX5_append 14 = .ok (.ldc 231, 2) := by decide +kernel
theorem dX5_append_16 : decode cX5_append 16 = .ok (.invokespecial 233, 3) := by decide +kernel
theorem dX5_append_19 : decode cX5_append 19 = .ok (.athrow, 1) := by decide +kernel
theorem dX5_append_20 : decode cX5_append 20 = .ok (.aload_n 0, 1) := by decide +kernel
theorem dX5_append_21 : decode cX5_append 21 = .ok (.getfield 32, 3) := by decide +kernel
theorem dX5_append_24 : decode cX5_append 24 = .ok (.iload_n 1, 1) := by decide +kernel
theorem dX5_append_25 : decode cX5_append 25 = .ok (.invokevirtual 234, 3) := by decide +kernel
theorem dX5_append_28 : decode cX5_append 28 = .ok (.ireturn, 1) := by decide +kernel
theorem dX5_commands_0 : decode cX5_commands 0 = .ok (.aload_n 0, 1) := by decide +kernel
theorem dX5_commands_1 : decode cX5_commands 1 = .ok (.getfield 32, 3) := by decide +kernel
theorem dX5_commands_4 : decode cX5_commands 4 = .ok (.invokevirtual 238, 3) := by decide +kernel
theorem dX5_commands_7 : decode cX5_commands 7 = .ok (.istore_n 1, 1) := by decide +kernel
theorem dX5_commands_8 : decode cX5_commands 8 = .ok (.aload_n 0, 1) := by decide +kernel
theorem dX5_commands_9 : decode cX5_commands 9 = .ok (.iload_n 1, 1) := by decide +kernel
theorem dX5_commands_10 : decode cX5_commands 10 = .ok (.iconst (-1), 1) := by decide +kernel
theorem dX5_commands_11 : decode cX5_commands 11 = .ok (.if_icmp .ne 13, 3) := by decide +kernel
theorem dX5_commands_14 : decode cX5_commands 14 = .ok (.aload_n 0, 1) := by decide +kernel
theorem dX5_commands_15 : decode cX5_commands 15 = .ok (.getfield 32, 3) := by decide +kernel
theorem dX5_commands_18 : decode cX5_commands 18 = .ok (.invokevirtual 241, 3) := by decide +kernel
theorem dX5_commands_21 : decode cX5_commands 21 = .ok (.goto 4, 3) := by decide +kernel
theorem dX5_commands_24 : decode cX5_commands 24 = .ok (.iconst (-1), 1) := by decide +kernel
theorem dX5_commands_25 : decode cX5_commands 25 = .ok (.putfield 47, 3) := by decide +kernel
theorem dX5_commands_28 : decode cX5_commands 28 = .ok (.iload_n 1, 1) := by decide +kernel
theorem dX5_commands_29 : decode cX5_commands 29 = .ok (.iconst (-1), 1) := by decide +kernel
theorem dX5_commands_30 : decode cX5_commands 30 = .ok (.if_icmp .ne 20, 3) := by decide +kernel
theorem dX5_commands_33 : decode cX5_commands 33 = .ok (.aload_n 0, 1) := by decide +kernel
theorem dX5_commands_34 : decode cX5_commands 34 = .ok (.getfield 32, 3) := by decide +kernel
theorem dX5_commands_37 : decode cX5_commands 37 = .ok (.invokevirtual 244, 3) := by decide +kernel
theorem dX5_commands_40 : decode cX5_commands 40 = .ok (.new 153, 3) := by decide +kernel
theorem dX5_commands_43 : decode cX5_commands 43 = .ok (.dup, 1) := by decide +kernel
theorem dX5_commands_44 : decode cX5_commands 44 = .ok (.ldc 247, 2) := by decide +kernel
theorem dX5_commands_46 : decode cX5_commands 46 = .ok (.invokespecial 157, 3) := by decide +kernel
theorem dX5_commands_49 : decode cX5_commands 49 = .ok (.athrow, 1) := by decide +kernel
theorem dX5_commands_50 : decode cX5_commands 50 = .ok (.aload_n 0, 1) := by decide +kernel
theorem dX5_commands_51 : decode cX5_commands 51 = .ok (.invokevirtual 63, 3) := by decide +kernel
theorem dX5_commands_54 : decode cX5_commands 54 = .ok (.aload_n 0, 1) := by decide +kernel
theorem dX5_commands_55 : decode cX5_commands 55 = .ok (.getfield 32, 3) := by decide +kernel
theorem dX5_commands_58 : decode cX5_commands 58 = .ok (.invokevirtual 249, 3) := by decide +kernel
theorem dX5_commands_61 : decode cX5_commands 61 = .ok (.iload_n 1, 1) := by decide +kernel
theorem dX5_commands_62 : decode cX5_commands 62 = .ok (.istore_n 2, 1) := by decide +kernel
theorem dX5_commands_63 : decode cX5_commands 63 = .ok (.iconst 0, 1) := by decide +kernel
theorem dX5_commands_64 : decode cX5_commands 64 = .ok (.istore_n 3, 1) := by decide +kernel
theorem dX5_commands_65 : decode cX5_commands 65 = .ok (.iload_n 3, 1) := by decide +kernel
theorem dX5_commands_66 : decode cX5_commands 66 = .ok (.iload_n 1, 1) := by decide +kernel
theorem dX5_commands_67 : decode cX5_commands 67 = .ok (.if_icmp .ge 65, 3) := by decide +kernel
theorem dX5_commands_70 : decode cX5_commands 70 = .ok (.iload_n 2, 1) := by decide +kernel
theorem dX5_commands_71 : decode cX5_commands 71 = .ok (.iconst (-1), 1) := by decide +kernel
theorem dX5_commands_72 : decode cX5_commands 72 = .ok (.if_icmp .eq 60, 3) := by decide +kernel
theorem dX5_commands_75 : decode cX5_commands 75 = .ok (.aload_n 0, 1) := by decide +kernel
theorem dX5_commands_76 : decode cX5_commands 76 = .ok (.iload_n 3, 1) := by decide +kernel
theorem dX5_commands_77 : decode cX5_commands 77 = .ok (.putfield 51, 3) := by decide +kernel
theorem dX5_commands_80 : decode cX5_commands 80 = .ok (.aload_n 0, 1) := by decide +kernel
theorem dX5_commands_81 : decode cX5_commands 81 = .ok (.getfield 32, 3) := by decide +kernel
theorem dX5_commands_84 : decode cX5_commands 84 = .ok (.invokevirtual 252, 3) := by decide +kernel
theorem dX5_commands_87 : decode cX5_commands 87 = .ok (.pop, 1) := by decide +kernel
theorem dX5_commands_88 : decode cX5_commands 88 = .ok (.aload_n 0, 1) := by decide +kernel
theorem dX5_commands_89 : decode cX5_commands 89 = .ok (.aload_n 0, 1) := by decide +kernel
theorem dX5_commands_90 : decode cX5_commands 90 = .ok (.getfield 32, 3) := by decide +kernel
theorem dX5_commands_93 : decode cX5_commands 93 = .ok (.invokevirtual 255, 3) := by decide +kernel
theorem dX5_commands_96 : decode cX5_commands 96 = .ok (.aload_n 0, 1) := by decide +kernel
theorem dX5_commands_97 : decode cX5_commands 97 = .ok (.getfield 32, 3) := by decide +kernel
theorem dX5_commands_100 : decode cX5_commands 100 = .ok (.getfield 259, 3) := by decide +kernel
theorem dX5_commands_103 : decode cX5_commands 103 = .ok (.invokevirtual 262, 3) := by decide +kernel
theorem dX5_commands_106 : decode cX5_commands 106 = .ok (.iconst (-1), 1) := by decide +kernel
theorem dX5_commands_107 : decode cX5_commands 107 = .ok (.if_icmp .ne 7, 3) := by decide +kernel
theorem dX5_commands_110 : decode cX5_commands 110 = .ok (.iconst (-1), 1) := by decide +kernel
theorem dX5_commands_111 : decode cX5_commands 111 = .ok (.goto 4, 3) := by decide +kernel
theorem dX5_commands_114 : decode cX5_commands 114 = .ok (.iload_n 1, 1) := by decide +kernel
theorem dX5_commands_115 : decode cX5_commands 115 = .ok (.istore_n 2, 1) := by decide +kernel
theorem dX5_commands_116 : decode cX5_commands 116 = .ok (.aload_n 0, 1) := by decide +kernel
theorem dX5_commands_117 : decode cX5_commands 117 = .ok (.getfield 32, 3) := by decide +kernel
theorem dX5_commands_120 : decode cX5_commands 120 = .ok (.bipush 59, 2) := by decide +kernel
theorem dX5_commands_122 : decode cX5_commands 122 = .ok (.invokevirtual 266, 3) := by decide +kernel
theorem dX5_commands_125 : decode cX5_commands 125 = .ok (.pop, 1) := by decide +kernel
theorem dX5_commands_126 : decode cX5_commands 126 = .ok (.iinc 3 1, 3) := by decide +kernel
theorem dX5_commands_129 : decode cX5_commands 129 = .ok (.goto (-64), 3) := by decide +kernel
theorem dX5_commands_132 : decode cX5_commands 132 = .ok (.iload_n 2, 1) := by decide +kernel
theorem dX5_commands_133 : decode cX5_commands 133 = .ok (.iconst (-1), 1) := by decide +kernel
theorem dX5_commands_134 : decode cX5_commands 134 = .ok (.if_icmp .ne 14, 3) := by decide +kernel
theorem dX5_commands_137 : decode cX5_commands 137 = .ok (.aload_n 0, 1) := by decide +kernel
theorem dX5_commands_138 : decode cX5_commands 138 = .ok (.getfield 10, 3) := by decide +kernel
theorem dX5_commands_141 : decode cX5_commands 141 = .ok (.aload_n 0, 1) := by decide +kernel
theorem dX5_commands_142 : decode cX5_commands 142 = .ok (.getfield 16, 3) := by decide +kernel
theorem dX5_commands_145 : decode cX5_commands 145 = .ok (.invokevirtual 270, 3) := by decide +kernel
theorem dX5_commands_148 : decode cX5_commands 148 = .ok (.aload_n 0, 1) := by decide +kernel
theorem dX5_commands_149 : decode cX5_commands 149 = .ok (.getfield 32, 3) := by decide +kernel
theorem dX5_commands_152 : decode cX5_commands 152 = .ok (.invokevirtual 244, 3) := by decide +kernel
theorem dX5_commands_155 : decode cX5_commands 155 = .ok (.aload_n 0, 1) := by decide +kernel
theorem dX5_commands_156 : decode cX5_commands 156 = .ok (.iload_n 2, 1) := by decide +kernel
theorem dX5_commands_157 : decode cX5_commands 157 = .ok (.invokevirtual 70, 3) := by decide +kernel
theorem dX5_commands_160 : decode cX5_commands 160 = .ok (.ireturn, 1) := by decide +kernel
theorem dX5_faultPosition_0 : decode cX5_faultPosition 0 = .ok (.aload_n 0, 1) := by decide +kernel
theorem dX5_faultPosition_1 : decode cX5_faultPosition 1 = .ok (.getfield 47, 3) := by decide +kernel
theorem dX5_faultPosition_4 : decode cX5_faultPosition 4 = .ok (.ireturn, 1) := by decide +kernel
theorem dX5_reason_0 : decode cX5_reason 0 = .ok (.iload_n 1, 1) := by decide +kernel
theorem dX5_reason_1 : decode cX5_reason 1 = .ok (.ifCond .lt 8, 3) := by decide +kernel
theorem dX5_reason_4 : decode cX5_reason 4 = .ok (.iload_n 1, 1) := by decide +kernel
theorem dX5_reason_5 : decode cX5_reason 5 = .ok (.iconst 2, 1) := by decide +kernel
theorem dX5_reason_6 : decode cX5_reason 6 = .ok (.if_icmp .le 14, 3) := by decide +kernel
theorem dX5_reason_9 : decode cX5_reason 9 = .ok (.new 153, 3) := by decide +kernel
theorem dX5_reason_12 : decode cX5_reason 12 = .ok (.dup, 1) := by decide +kernel
theorem dX5_reason_13 : decode cX5_reason 13 = .ok (.ldc_w 274, 3) := by decide +kernel
theorem dX5_reason_16 : decode cX5_reason 16 = .ok (.invokespecial 157, 3) := by decide +kernel
theorem dX5_reason_19 : decode cX5_reason 19 = .ok (.athrow, 1) := by decide +kernel
theorem dX5_reason_20 : decode cX5_reason 20 = .ok (.aload_n 0, 1) := by decide +kernel
theorem dX5_reason_21 : decode cX5_reason 21 = .ok (.getfield 54, 3) := by decide +kernel
theorem dX5_reason_24 : decode cX5_reason 24 = .ok (.ifCond .ne 14, 3) := by decide +kernel
theorem dX5_reason_27 : decode cX5_reason 27 = .ok (.new 166, 3) := by decide +kernel
theorem dX5_reason_30 : decode cX5_reason 30 = .ok (.dup, 1) := by decide +kernel
theorem dX5_reason_31 : decode cX5_reason 31 = .ok (.ldc_w 276, 3) := by decide +kernel
theorem dX5_reason_34 : decode cX5_reason 34 = .ok (.invokespecial 170, 3) := by decide +kernel
theorem dX5_reason_37 : decode cX5_reason 37 = .ok (.athrow, 1) := by decide +kernel
theorem dX5_reason_38 : decode cX5_reason 38 = .ok (.iload_n 1, 1) := by decide +kernel
theorem dX5_reason_39 : decode cX5_reason 39 = .ok (.ifCond .ne 8, 3) := by decide +kernel
theorem dX5_reason_42 : decode cX5_reason 42 = .ok (.aload_n 0, 1) := by decide +kernel
theorem dX5_reason_43 : decode cX5_reason 43 = .ok (.getfield 54, 3) := by decide +kernel
theorem dX5_reason_46 : decode cX5_reason 46 = .ok (.ireturn, 1) := by decide +kernel
theorem dX5_reason_47 : decode cX5_reason 47 = .ok (.iload_n 1, 1) := by decide +kernel
theorem dX5_reason_48 : decode cX5_reason 48 = .ok (.iconst 1, 1) := by decide +kernel
theorem dX5_reason_49 : decode cX5_reason 49 = .ok (.if_icmp .ne 10, 3) := by decide +kernel
theorem dX5_reason_52 : decode cX5_reason 52 = .ok (.aload_n 0, 1) := by decide +kernel
theorem dX5_reason_53 : decode cX5_reason 53 = .ok (.getfield 57, 3) := by decide +kernel
theorem dX5_reason_56 : decode cX5_reason 56 = .ok (.goto 7, 3) := by decide +kernel
theorem dX5_reason_59 : decode cX5_reason 59 = .ok (.aload_n 0, 1) := by decide +kernel
theorem dX5_reason_60 : decode cX5_reason 60 = .ok (.getfield 60, 3) := by decide +kernel
theorem dX5_reason_63 : decode cX5_reason 63 = .ok (.ireturn, 1) := by decide +kernel
theorem dX5_line_0 : decode cX5_line 0 = .ok (.aload_n 0, 1) := by decide +kernel
theorem dX5_line_1 : decode cX5_line 1 = .ok (.iload_n 1, 1) := by decide +kernel
theorem dX5_line_2 : decode cX5_line 2 = .ok (.invokevirtual 160, 3) := by decide +kernel
theorem dX5_line_5 : decode cX5_line 5 = .ok (.aload_n 0, 1) := by decide +kernel
theorem dX5_line_6 : decode cX5_line 6 = .ok (.getfield 39, 3) := by decide +kernel
theorem dX5_line_9 : decode cX5_line 9 = .ok (.invokevirtual 278, 3) := by decide +kernel
theorem dX5_line_12 : decode cX5_line 12 = .ok (.iconst 0, 1) := by decide +kernel
theorem dX5_line_13 : decode cX5_line 13 = .ok (.istore_n 2, 1) := by decide +kernel
theorem dX5_line_14 : decode cX5_line 14 = .ok (.iload_n 2, 1) := by decide +kernel
theorem dX5_line_15 : decode cX5_line 15 = .ok (.aload_n 0, 1) := by decide +kernel
theorem dX5_line_16 : decode cX5_line 16 = .ok (.getfield 10, 3) := by decide +kernel
theorem dX5_line_19 : decode cX5_line 19 = .ok (.getfield 116, 3) := by decide +kernel
theorem dX5_line_22 : decode cX5_line 22 = .ok (.invokevirtual 171, 3) := by decide +kernel
theorem dX5_line_25 : decode cX5_line 25 = .ok (.if_icmp .ge 46, 3) := by decide +kernel
theorem dX5_line_28 : decode cX5_line 28 = .ok (.aload_n 0, 1) := by decide +kernel
theorem dX5_line_29 : decode cX5_line 29 = .ok (.getfield 10, 3) := by decide +kernel
theorem dX5_line_32 : decode cX5_line 32 = .ok (.iload_n 2, 1) := by decide +kernel
theorem dX5_line_33 : decode cX5_line 33 = .ok (.iload_n 1, 1) := by decide +kernel
theorem dX5_line_34 : decode cX5_line 34 = .ok (.invokevirtual 163, 3) := by decide +kernel
theorem dX5_line_37 : decode cX5_line 37 = .ok (.istore_n 3, 1) := by decide +kernel
theorem dX5_line_38 : decode cX5_line 38 = .ok (.iload_n 3, 1) := by decide +kernel
theorem dX5_line_39 : decode cX5_line 39 = .ok (.iconst (-1), 1) := by decide +kernel
theorem dX5_line_40 : decode cX5_line 40 = .ok (.if_icmp .eq 25, 3) := by decide +kernel
theorem dX5_line_43 : decode cX5_line 43 = .ok (.aload_n 0, 1) := by decide +kernel
theorem dX5_line_44 : decode cX5_line 44 = .ok (.getfield 39, 3) := by decide +kernel
theorem dX5_line_47 : decode cX5_line 47 = .ok (.iload_n 2, 1) := by decide +kernel
theorem dX5_line_48 : decode cX5_line 48 = .ok (.iload_n 3, 1) := by decide +kernel
theorem dX5_line_49 : decode cX5_line 49 = .ok (.iload_n 3, 1) := by decide +kernel
theorem dX5_line_50 : decode cX5_line 50 = .ok (.aload_n 0, 1) := by decide +kernel
theorem dX5_line_51 : decode cX5_line 51 = .ok (.getfield 10, 3) := by decide +kernel
theorem dX5_line_54 : decode cX5_line 54 = .ok (.getfield 116, 3) := by decide +kernel
theorem dX5_line_57 : decode cX5_line 57 = .ok (.iload_n 2, 1) := by decide +kernel
theorem dX5_line_58 : decode cX5_line 58 = .ok (.invokevirtual 120, 3) := by decide +kernel
theorem dX5_line_61 : decode cX5_line 61 = .ok (.isub, 1) := by decide +kernel
theorem dX5_line_62 : decode cX5_line 62 = .ok (.invokevirtual 279, 3) := by decide +kernel
theorem dX5_line_65 : decode cX5_line 65 = .ok (.iinc 2 1, 3) := by decide +kernel
theorem dX5_line_68 : decode cX5_line 68 = .ok (.goto (-54), 3) := by decide +kernel
theorem dX5_line_71 : decode cX5_line 71 = .ok (.aload_n 0, 1) := by decide +kernel
theorem dX5_line_72 : decode cX5_line 72 = .ok (.getfield 39, 3) := by decide +kernel
theorem dX5_line_75 : decode cX5_line 75 = .ok (.invokevirtual 283, 3) := by decide +kernel
theorem dX5_line_78 : decode cX5_line 78 = .ok (.ifCond .ne 13, 3) := by decide +kernel
theorem dX5_line_81 : decode cX5_line 81 = .ok (.aload_n 0, 1) := by decide +kernel
theorem dX5_line_82 : decode cX5_line 82 = .ok (.getfield 39, 3) := by decide +kernel
theorem dX5_line_85 : decode cX5_line 85 = .ok (.ldc_w 286, 3) := by decide +kernel
theorem dX5_line_88 : decode cX5_line 88 = .ok (.invokevirtual 288, 3) := by decide +kernel
theorem dX5_line_91 : decode cX5_line 91 = .ok (.aload_n 0, 1) := by decide +kernel
theorem dX5_line_92 : decode cX5_line 92 = .ok (.getfield 39, 3) := by decide +kernel
theorem dX5_line_95 : decode cX5_line 95 = .ok (.invokevirtual 283, 3) := by decide +kernel
theorem dX5_line_98 : decode cX5_line 98 = .ok (.ireturn, 1) := by decide +kernel
theorem dX5_character_0 : decode cX5_character 0 = .ok (.iload_n 1, 1) := by decide +kernel
theorem dX5_character_1 : decode cX5_character 1 = .ok (.ifCond .lt 14, 3) := by decide +kernel
theorem dX5_character_4 : decode cX5_character 4 = .ok (.iload_n 1, 1) := by decide +kernel
theorem dX5_character_5 : decode cX5_character 5 = .ok (.aload_n 0, 1) := by decide +kernel
theorem dX5_character_6 : decode cX5_character 6 = .ok (.getfield 39, 3) := by decide +kernel
theorem dX5_character_9 : decode cX5_character 9 = .ok (.invokevirtual 283, 3) := by decide +kernel
theorem dX5_character_12 : decode cX5_character 12 = .ok (.if_icmp .lt 14, 3) := by decide +kernel
theorem dX5_character_15 : decode cX5_character 15 = .ok (.new 291, 3) := by decide +kernel
theorem dX5_character_18 : decode cX5_character 18 = .ok (.dup, 1) := by decide +kernel
theorem dX5_character_19 : decode cX5_character 19 = .ok (.ldc_w 293, 3) := by decide +kernel
theorem dX5_character_22 : decode cX5_character 22 = .ok (.invokespecial 295, 3) := by decide +kernel
theorem dX5_character_25 : decode cX5_character 25 = .ok (.athrow, 1) := by decide +kernel
theorem dX5_character_26 : decode cX5_character 26 = .ok (.aload_n 0, 1) := by decide +kernel
theorem dX5_character_27 : decode cX5_character 27 = .ok (.getfield 39, 3) := by decide +kernel
theorem dX5_character_30 : decode cX5_character 30 = .ok (.iload_n 1, 1) := by decide +kernel
theorem dX5_character_31 : decode cX5_character 31 = .ok (.invokevirtual 296, 3) := by decide +kernel
theorem dX5_character_34 : decode cX5_character 34 = .ok (.ireturn, 1) := by decide +kernel
theorem dX5_meanThirst_0 : decode cX5_meanThirst 0 = .ok (.aload_n 0, 1) := by decide +kernel
theorem dX5_meanThirst_1 : decode cX5_meanThirst 1 = .ok (.getfield 10, 3) := by decide +kernel
theorem dX5_meanThirst_4 : decode cX5_meanThirst 4 = .ok (.getfield 137, 3) := by decide +kernel
theorem dX5_meanThirst_7 : decode cX5_meanThirst 7 = .ok (.invokevirtual 171, 3) := by decide +kernel
theorem dX5_meanThirst_10 : decode cX5_meanThirst 10 = .ok (.istore_n 1, 1) := by decide +kernel
theorem dX5_meanThirst_11 : decode cX5_meanThirst 11 = .ok (.iload_n 1, 1) := by decide +kernel
theorem dX5_meanThirst_12 : decode cX5_meanThirst 12 = .ok (.ifCond .gt 13, 3) := by decide +kernel
theorem dX5_meanThirst_15 : decode cX5_meanThirst 15 = .ok (.new 300, 3) := by decide +kernel
theorem dX5_meanThirst_18 : decode cX5_meanThirst 18 = .ok (.dup, 1) := by decide +kernel
theorem dX5_meanThirst_19 : decode cX5_meanThirst 19 = .ok (.ldc 223, 2) := by decide +kernel
theorem dX5_meanThirst_21 : decode cX5_meanThirst 21 = .ok (.invokespecial 302, 3) := by decide +kernel
theorem dX5_meanThirst_24 : decode cX5_meanThirst 24 = .ok (.athrow, 1) := by decide +kernel
theorem dX5_meanThirst_25 : decode cX5_meanThirst 25 = .ok (.aload_n 0, 1) := by decide +kernel
theorem dX5_meanThirst_26 : decode cX5_meanThirst 26 = .ok (.getfield 10, 3) := by decide +kernel
theorem dX5_meanThirst_29 : decode cX5_meanThirst 29 = .ok (.getfield 140, 3) := by decide +kernel
theorem dX5_meanThirst_32 : decode cX5_meanThirst 32 = .ok (.invokevirtual 303, 3) := by decide +kernel
theorem dX5_meanThirst_35 : decode cX5_meanThirst 35 = .ok (.i2f, 1) := by decide +kernel
theorem dX5_meanThirst_36 : decode cX5_meanThirst 36 = .ok (.iload_n 1, 1) := by decide +kernel
theorem dX5_meanThirst_37 : decode cX5_meanThirst 37 = .ok (.i2f, 1) := by decide +kernel
theorem dX5_meanThirst_38 : decode cX5_meanThirst 38 = .ok (.fdiv, 1) := by decide +kernel
theorem dX5_meanThirst_39 : decode cX5_meanThirst 39 = .ok (.freturn, 1) := by decide +kernel
theorem dX5_rightShare_0 : decode cX5_rightShare 0 = .ok (.aload_n 0, 1) := by decide +kernel
theorem dX5_rightShare_1 : decode cX5_rightShare 1 = .ok (.getfield 10, 3) := by decide +kernel
theorem dX5_rightShare_4 : decode cX5_rightShare 4 = .ok (.iconst 0, 1) := by decide +kernel
theorem dX5_rightShare_5 : decode cX5_rightShare 5 = .ok (.invokevirtual 306, 3) := by decide +kernel
theorem dX5_rightShare_8 : decode cX5_rightShare 8 = .ok (.istore_n 1, 1) := by decide +kernel
theorem dX5_rightShare_9 : decode cX5_rightShare 9 = .ok (.iload_n 1, 1) := by decide +kernel
theorem dX5_rightShare_10 : decode cX5_rightShare 10 = .ok (.ifCond .gt 14, 3) := by decide +kernel
theorem dX5_rightShare_13 : decode cX5_rightShare 13 = .ok (.new 300, 3) := by decide +kernel
theorem dX5_rightShare_16 : decode cX5_rightShare 16 = .ok (.dup, 1) := by decide +kernel
theorem dX5_rightShare_17 : decode cX5_rightShare 17 = .ok (.ldc_w 310, 3) := by decide +kernel
theorem dX5_rightShare_20 : decode cX5_rightShare 20 = .ok (.invokespecial 302, 3) := by decide +kernel
theorem dX5_rightShare_23 : decode cX5_rightShare 23 = .ok (.athrow, 1) := by decide +kernel
theorem dX5_rightShare_24 : decode cX5_rightShare 24 = .ok (.aload_n 0, 1) := by decide +kernel
theorem dX5_rightShare_25 : decode cX5_rightShare 25 = .ok (.getfield 10, 3) := by decide +kernel
theorem dX5_rightShare_28 : decode cX5_rightShare 28 = .ok (.iconst 1, 1) := by decide +kernel
theorem dX5_rightShare_29 : decode cX5_rightShare 29 = .ok (.invokevirtual 306, 3) := by decide +kernel
theorem dX5_rightShare_32 : decode cX5_rightShare 32 = .ok (.i2d, 1) := by decide +kernel
theorem dX5_rightShare_33 : decode cX5_rightShare 33 = .ok (.iload_n 1, 1) := by decide +kernel
theorem dX5_rightShare_34 : decode cX5_rightShare 34 = .ok (.i2d, 1) := by decide +kernel
theorem dX5_rightShare_35 : decode cX5_rightShare 35 = .ok (.ddiv, 1) := by decide +kernel
theorem dX5_rightShare_36 : decode cX5_rightShare 36 = .ok (.dreturn, 1) := by decide +kernel
theorem dX5_account_0 : decode cX5_account 0 = .ok (.iload_n 1, 1) := by decide +kernel
theorem dX5_account_1 : decode cX5_account 1 = .ok (.tableswitch 238 0 16 #[83, 91, 102, 110, 118, 129, 140, 148, 157, 168, 179, 187, 195, 206, 214, 222, 230], 83) := by decide +kernel
theorem dX5_account_84 : decode cX5_account 84 = .ok (.aload_n 0, 1) := by decide +kernel
theorem dX5_account_85 : decode cX5_account 85 = .ok (.getfield 10, 3) := by decide +kernel
theorem dX5_account_88 : decode cX5_account 88 = .ok (.getfield 204, 3) := by decide +kernel
theorem dX5_account_91 : decode cX5_account 91 = .ok (.ireturn, 1) := by decide +kernel
theorem dX5_account_92 : decode cX5_account 92 = .ok (.aload_n 0, 1) := by decide +kernel
theorem dX5_account_93 : decode cX5_account 93 = .ok (.getfield 10, 3) := by decide +kernel
theorem dX5_account_96 : decode cX5_account 96 = .ok (.getfield 204, 3) := by decide +kernel
theorem dX5_account_99 : decode cX5_account 99 = .ok (.bipush 24, 2) := by decide +kernel
theorem dX5_account_101 : decode cX5_account 101 = .ok (.irem, 1) := by decide +kernel
theorem dX5_account_102 : decode cX5_account 102 = .ok (.ireturn, 1) := by decide +kernel
theorem dX5_account_103 : decode cX5_account 103 = .ok (.aload_n 0, 1) := by decide +kernel
theorem dX5_account_104 : decode cX5_account 104 = .ok (.getfield 10, 3) := by decide +kernel
theorem dX5_account_107 : decode cX5_account 107 = .ok (.invokevirtual 185, 3) := by decide +kernel
theorem dX5_account_110 : decode cX5_account 110 = .ok (.ireturn, 1) := by decide +kernel
theorem dX5_account_111 : decode cX5_account 111 = .ok (.aload_n 0, 1) := by decide +kernel
theorem dX5_account_112 : decode cX5_account 112 = .ok (.getfield 10, 3) := by decide +kernel
theorem dX5_account_115 : decode cX5_account 115 = .ok (.getfield 312, 3) := by decide +kernel
theorem dX5_account_118 : decode cX5_account 118 = .ok (.ireturn, 1) := by decide +kernel
theorem dX5_account_119 : decode cX5_account 119 = .ok (.aload_n 0, 1) := by decide +kernel
theorem dX5_account_120 : decode cX5_account 120 = .ok (.getfield 10, 3) := by decide +kernel
theorem dX5_account_123 : decode cX5_account 123 = .ok (.getfield 116, 3) := by decide +kernel
theorem dX5_account_126 : decode cX5_account 126 = .ok (.invokevirtual 171, 3) := by decide +kernel
theorem dX5_account_129 : decode cX5_account 129 = .ok (.ireturn, 1) := by decide +kernel
theorem dX5_account_130 : decode cX5_account 130 = .ok (.aload_n 0, 1) := by decide +kernel
theorem dX5_account_131 : decode cX5_account 131 = .ok (.getfield 10, 3) := by decide +kernel
theorem dX5_account_134 : decode cX5_account 134 = .ok (.getfield 131, 3) := by decide +kernel
theorem dX5_account_137 : decode cX5_account 137 = .ok (.invokevirtual 171, 3) := by decide +kernel
theorem dX5_account_140 : decode cX5_account 140 = .ok (.ireturn, 1) := by decide +kernel
theorem dX5_account_141 : decode cX5_account 141 = .ok (.aload_n 0, 1) := by decide +kernel
theorem dX5_account_142 : decode cX5_account 142 = .ok (.getfield 10, 3) := by decide +kernel
theorem dX5_account_145 : decode cX5_account 145 = .ok (.getfield 315, 3) := by decide +kernel
theorem dX5_account_148 : decode cX5_account 148 = .ok (.ireturn, 1) := by decide +kernel
theorem dX5_account_149 : decode cX5_account 149 = .ok (.aload_n 0, 1) := by decide +kernel
theorem dX5_account_150 : decode cX5_account 150 = .ok (.getfield 10, 3) := by decide +kernel
theorem dX5_account_153 : decode cX5_account 153 = .ok (.iconst 0, 1) := by decide +kernel
theorem dX5_account_154 : decode cX5_account 154 = .ok (.invokevirtual 306, 3) := by decide +kernel
theorem dX5_account_157 : decode cX5_account 157 = .ok (.ireturn, 1) := by decide +kernel
theorem dX5_account_158 : decode cX5_account 158 = .ok (.aload_n 0, 1) := by decide +kernel
theorem dX5_account_159 : decode cX5_account 159 = .ok (.getfield 10, 3) := by decide +kernel
theorem dX5_account_162 : decode cX5_account 162 = .ok (.getfield 137, 3) := by decide +kernel
theorem dX5_account_165 : decode cX5_account 165 = .ok (.invokevirtual 171, 3) := by decide +kernel
theorem dX5_account_168 : decode cX5_account 168 = .ok (.ireturn, 1) := by decide +kernel
theorem dX5_account_169 : decode cX5_account 169 = .ok (.aload_n 0, 1) := by decide +kernel
theorem dX5_account_170 : decode cX5_account 170 = .ok (.getfield 10, 3) := by decide +kernel
theorem dX5_account_173 : decode cX5_account 173 = .ok (.getfield 143, 3) := by decide +kernel
theorem dX5_account_176 : decode cX5_account 176 = .ok (.invokevirtual 303, 3) := by decide +kernel
theorem dX5_account_179 : decode cX5_account 179 = .ok (.ireturn, 1) := by decide +kernel
theorem dX5_account_180 : decode cX5_account 180 = .ok (.aload_n 0, 1) := by decide +kernel
theorem dX5_account_181 : decode cX5_account 181 = .ok (.getfield 10, 3) := by decide +kernel
theorem dX5_account_184 : decode cX5_account 184 = .ok (.invokevirtual 318, 3) := by decide +kernel
theorem dX5_account_187 : decode cX5_account 187 = .ok (.ireturn, 1) := by decide +kernel
theorem dX5_account_188 : decode cX5_account 188 = .ok (.aload_n 0, 1) := by decide +kernel
theorem dX5_account_189 : decode cX5_account 189 = .ok (.getfield 10, 3) := by decide +kernel
theorem dX5_account_192 : decode cX5_account 192 = .ok (.getfield 321, 3) := by decide +kernel
theorem dX5_account_195 : decode cX5_account 195 = .ok (.ireturn, 1) := by decide +kernel
theorem dX5_account_196 : decode cX5_account 196 = .ok (.aload_n 0, 1) := by decide +kernel
theorem dX5_account_197 : decode cX5_account 197 = .ok (.getfield 10, 3) := by decide +kernel
theorem dX5_account_200 : decode cX5_account 200 = .ok (.getfield 150, 3) := by decide +kernel
theorem dX5_account_203 : decode cX5_account 203 = .ok (.invokevirtual 303, 3) := by decide +kernel
theorem dX5_account_206 : decode cX5_account 206 = .ok (.ireturn, 1) := by decide +kernel
theorem dX5_account_207 : decode cX5_account 207 = .ok (.aload_n 0, 1) := by decide +kernel
theorem dX5_account_208 : decode cX5_account 208 = .ok (.getfield 10, 3) := by decide +kernel
theorem dX5_account_211 : decode cX5_account 211 = .ok (.invokevirtual 324, 3) := by decide +kernel
theorem dX5_account_214 : decode cX5_account 214 = .ok (.ireturn, 1) := by decide +kernel
theorem dX5_account_215 : decode cX5_account 215 = .ok (.aload_n 0, 1) := by decide +kernel
theorem dX5_account_216 : decode cX5_account 216 = .ok (.getfield 10, 3) := by decide +kernel
theorem dX5_account_219 : decode cX5_account 219 = .ok (.getfield 327, 3) := by decide +kernel
theorem dX5_account_222 : decode cX5_account 222 = .ok (.ireturn, 1) := by decide +kernel
theorem dX5_account_223 : decode cX5_account 223 = .ok (.aload_n 0, 1) := by decide +kernel
theorem dX5_account_224 : decode cX5_account 224 = .ok (.getfield 25, 3) := by decide +kernel
theorem dX5_account_227 : decode cX5_account 227 = .ok (.invokevirtual 330, 3) := by decide +kernel
theorem dX5_account_230 : decode cX5_account 230 = .ok (.ireturn, 1) := by decide +kernel
theorem dX5_account_231 : decode cX5_account 231 = .ok (.aload_n 0, 1) := by decide +kernel
theorem dX5_account_232 : decode cX5_account 232 = .ok (.getfield 32, 3) := by decide +kernel
theorem dX5_account_235 : decode cX5_account 235 = .ok (.invokevirtual 331, 3) := by decide +kernel
theorem dX5_account_238 : decode cX5_account 238 = .ok (.ireturn, 1) := by decide +kernel
theorem dX5_account_239 : decode cX5_account 239 = .ok (.new 153, 3) := by decide +kernel
theorem dX5_account_242 : decode cX5_account 242 = .ok (.dup, 1) := by decide +kernel
theorem dX5_account_243 : decode cX5_account 243 = .ok (.ldc_w 332, 3) := by decide +kernel
theorem dX5_account_246 : decode cX5_account 246 = .ok (.invokespecial 157, 3) := by decide +kernel
theorem dX5_account_249 : decode cX5_account 249 = .ok (.athrow, 1) := by decide +kernel
theorem dX5_undo_0 : decode cX5_undo 0 = .ok (.aload_n 0, 1) := by decide +kernel
theorem dX5_undo_1 : decode cX5_undo 1 = .ok (.getfield 25, 3) := by decide +kernel
theorem dX5_undo_4 : decode cX5_undo 4 = .ok (.invokevirtual 330, 3) := by decide +kernel
theorem dX5_undo_7 : decode cX5_undo 7 = .ok (.ifCond .ne 14, 3) := by decide +kernel
theorem dX5_undo_10 : decode cX5_undo 10 = .ok (.new 229, 3) := by decide +kernel
theorem dX5_undo_13 : decode cX5_undo 13 = .ok (.dup, 1) := by decide +kernel
theorem dX5_undo_14 : decode cX5_undo 14 = .ok (.ldc_w 334, 3) := by decide +kernel
theorem dX5_undo_17 : decode cX5_undo 17 = .ok (.invokespecial 233, 3) := by decide +kernel
theorem dX5_undo_20 : decode cX5_undo 20 = .ok (.athrow, 1) := by decide +kernel
theorem dX5_undo_21 : decode cX5_undo 21 = .ok (.aload_n 0, 1) := by decide +kernel
theorem dX5_undo_22 : decode cX5_undo 22 = .ok (.getfield 25, 3) := by decide +kernel
theorem dX5_undo_25 : decode cX5_undo 25 = .ok (.aload_n 0, 1) := by decide +kernel
theorem dX5_undo_26 : decode cX5_undo 26 = .ok (.getfield 10, 3) := by decide +kernel
theorem dX5_undo_29 : decode cX5_undo 29 = .ok (.invokevirtual 336, 3) := by decide +kernel
theorem dX5_undo_32 : decode cX5_undo 32 = .ok (.aload_n 0, 1) := by decide +kernel
theorem dX5_undo_33 : decode cX5_undo 33 = .ok (.getfield 25, 3) := by decide +kernel
theorem dX5_undo_36 : decode cX5_undo 36 = .ok (.invokevirtual 330, 3) := by decide +kernel
theorem dX5_undo_39 : decode cX5_undo 39 = .ok (.ireturn, 1) := by decide +kernel
theorem dX5_save_0 : decode cX5_save 0 = .ok (.aload_n 0, 1) := by decide +kernel
theorem dX5_save_1 : decode cX5_save 1 = .ok (.getfield 19, 3) := by decide +kernel
theorem dX5_save_4 : decode cX5_save 4 = .ok (.aload_n 0, 1) := by decide +kernel
theorem dX5_save_5 : decode cX5_save 5 = .ok (.getfield 10, 3) := by decide +kernel
theorem dX5_save_8 : decode cX5_save 8 = .ok (.invokevirtual 270, 3) := by decide +kernel
theorem dX5_save_11 : decode cX5_save 11 = .ok (.aload_n 0, 1) := by decide +kernel
theorem dX5_save_12 : decode cX5_save 12 = .ok (.iconst 1, 1) := by decide +kernel
theorem dX5_save_13 : decode cX5_save 13 = .ok (.putfield 43, 3) := by decide +kernel
theorem dX5_save_16 : decode cX5_save 16 = .ok (.aload_n 0, 1) := by decide +kernel
theorem dX5_save_17 : decode cX5_save 17 = .ok (.getfield 10, 3) := by decide +kernel
theorem dX5_save_20 : decode cX5_save 20 = .ok (.getfield 204, 3) := by decide +kernel
theorem dX5_save_23 : decode cX5_save 23 = .ok (.ireturn, 1) := by decide +kernel
theorem dX5_restore_0 : decode cX5_restore 0 = .ok (.aload_n 0, 1) := by decide +kernel
theorem dX5_restore_1 : decode cX5_restore 1 = .ok (.getfield 43, 3) := by decide +kernel
theorem dX5_restore_4 : decode cX5_restore 4 = .ok (.ifCond .ne 14, 3) := by decide +kernel
theorem dX5_restore_7 : decode cX5_restore 7 = .ok (.new 229, 3) := by decide +kernel
theorem dX5_restore_10 : decode cX5_restore 10 = .ok (.dup, 1) := by decide +kernel
theorem dX5_restore_11 : decode cX5_restore 11 = .ok (.ldc_w 339, 3) := by decide +kernel
theorem dX5_restore_14 : decode cX5_restore 14 = .ok (.invokespecial 233, 3) := by decide +kernel
theorem dX5_restore_17 : decode cX5_restore 17 = .ok (.athrow, 1) := by decide +kernel
theorem dX5_restore_18 : decode cX5_restore 18 = .ok (.aload_n 0, 1) := by decide +kernel
theorem dX5_restore_19 : decode cX5_restore 19 = .ok (.getfield 10, 3) := by decide +kernel
theorem dX5_restore_22 : decode cX5_restore 22 = .ok (.aload_n 0, 1) := by decide +kernel
theorem dX5_restore_23 : decode cX5_restore 23 = .ok (.getfield 19, 3) := by decide +kernel
theorem dX5_restore_26 : decode cX5_restore 26 = .ok (.invokevirtual 270, 3) := by decide +kernel
theorem dX5_restore_29 : decode cX5_restore 29 = .ok (.aload_n 0, 1) := by decide +kernel
theorem dX5_restore_30 : decode cX5_restore 30 = .ok (.getfield 25, 3) := by decide +kernel
theorem dX5_restore_33 : decode cX5_restore 33 = .ok (.invokevirtual 341, 3) := by decide +kernel
theorem dX5_restore_36 : decode cX5_restore 36 = .ok (.aload_n 0, 1) := by decide +kernel
theorem dX5_restore_37 : decode cX5_restore 37 = .ok (.getfield 10, 3) := by decide +kernel
theorem dX5_restore_40 : decode cX5_restore 40 = .ok (.getfield 204, 3) := by decide +kernel
theorem dX5_restore_43 : decode cX5_restore 43 = .ok (.ireturn, 1) := by decide +kernel
theorem dX5_begin_0 : decode cX5_begin 0 = .ok (.aload_n 0, 1) := by decide +kernel
theorem dX5_begin_1 : decode cX5_begin 1 = .ok (.getfield 16, 3) := by decide +kernel
theorem dX5_begin_4 : decode cX5_begin 4 = .ok (.aload_n 0, 1) := by decide +kernel
theorem dX5_begin_5 : decode cX5_begin 5 = .ok (.getfield 10, 3) := by decide +kernel
theorem dX5_begin_8 : decode cX5_begin 8 = .ok (.invokevirtual 270, 3) := by decide +kernel
theorem dX5_begin_11 : decode cX5_begin 11 = .ok (.aload_n 0, 1) := by decide +kernel
theorem dX5_begin_12 : decode cX5_begin 12 = .ok (.iconst 0, 1) := by decide +kernel
theorem dX5_begin_13 : decode cX5_begin 13 = .ok (.putfield 51, 3) := by decide +kernel
theorem dX5_begin_16 : decode cX5_begin 16 = .ok (.return_, 1) := by decide +kernel
theorem dX5_refuse_0 : decode cX5_refuse 0 = .ok (.aload_n 0, 1) := by decide +kernel
theorem dX5_refuse_1 : decode cX5_refuse 1 = .ok (.iload_n 1, 1) := by decide +kernel
theorem dX5_refuse_2 : decode cX5_refuse 2 = .ok (.putfield 54, 3) := by decide +kernel
theorem dX5_refuse_5 : decode cX5_refuse 5 = .ok (.aload_n 0, 1) := by decide +kernel
theorem dX5_refuse_6 : decode cX5_refuse 6 = .ok (.iload_n 2, 1) := by decide +kernel
theorem dX5_refuse_7 : decode cX5_refuse 7 = .ok (.putfield 57, 3) := by decide +kernel
theorem dX5_refuse_10 : decode cX5_refuse 10 = .ok (.aload_n 0, 1) := by decide +kernel
theorem dX5_refuse_11 : decode cX5_refuse 11 = .ok (.aload_n 0, 1) := by decide +kernel
theorem dX5_refuse_12 : decode cX5_refuse 12 = .ok (.getfield 51, 3) := by decide +kernel
theorem dX5_refuse_15 : decode cX5_refuse 15 = .ok (.putfield 60, 3) := by decide +kernel
theorem dX5_refuse_18 : decode cX5_refuse 18 = .ok (.iconst (-1), 1) := by decide +kernel
theorem dX5_refuse_19 : decode cX5_refuse 19 = .ok (.ireturn, 1) := by decide +kernel
theorem dX5_settle_0 : decode cX5_settle 0 = .ok (.iload_n 1, 1) := by decide +kernel
theorem dX5_settle_1 : decode cX5_settle 1 = .ok (.iconst (-1), 1) := by decide +kernel
theorem dX5_settle_2 : decode cX5_settle 2 = .ok (.if_icmp .ne 14, 3) := by decide +kernel
theorem dX5_settle_5 : decode cX5_settle 5 = .ok (.new 344, 3) := by decide +kernel
theorem dX5_settle_8 : decode cX5_settle 8 = .ok (.dup, 1) := by decide +kernel
theorem dX5_settle_9 : decode cX5_settle 9 = .ok (.ldc_w 346, 3) := by decide +kernel
theorem dX5_settle_12 : decode cX5_settle 12 = .ok (.invokespecial 348, 3) := by decide +kernel
theorem dX5_settle_15 : decode cX5_settle 15 = .ok (.athrow, 1) := by decide +kernel
theorem dX5_settle_16 : decode cX5_settle 16 = .ok (.aload_n 0, 1) := by decide +kernel
theorem dX5_settle_17 : decode cX5_settle 17 = .ok (.getfield 25, 3) := by decide +kernel
theorem dX5_settle_20 : decode cX5_settle 20 = .ok (.aload_n 0, 1) := by decide +kernel
theorem dX5_settle_21 : decode cX5_settle 21 = .ok (.getfield 16, 3) := by decide +kernel
theorem dX5_settle_24 : decode cX5_settle 24 = .ok (.invokevirtual 349, 3) := by decide +kernel
theorem dX5_settle_27 : decode cX5_settle 27 = .ok (.iload_n 1, 1) := by decide +kernel
theorem dX5_settle_28 : decode cX5_settle 28 = .ok (.ireturn, 1) := by decide +kernel
theorem dX5_carryOut_0 : decode cX5_carryOut 0 = .ok (.aload_n 2, 1) := by decide +kernel
theorem dX5_carryOut_1 : decode cX5_carryOut 1 = .ok (.iconst 0, 1) := by decide +kernel
theorem dX5_carryOut_2 : decode cX5_carryOut 2 = .ok (.invokevirtual 120, 3) := by decide +kernel
theorem dX5_carryOut_5 : decode cX5_carryOut 5 = .ok (.istore_n 3, 1) := by decide +kernel
theorem dX5_carryOut_6 : decode cX5_carryOut 6 = .ok (.iload_n 1, 1) := by decide +kernel
theorem dX5_carryOut_7 : decode cX5_carryOut 7 = .ok (.tableswitch 140 98 116 #[116, 140, 134, 105, 140, 140, 140, 140, 140, 140, 128, 140, 140, 140, 140, 140, 140, 89, 122], 89) := by decide +kernel
theorem dX5_carryOut_96 : decode cX5_carryOut 96 = .ok (.aload_n 0, 1) := by decide +kernel
theorem dX5_carryOut_97 : decode cX5_carryOut 97 = .ok (.iload_n 3, 1) := by decide +kernel
theorem dX5_carryOut_98 : decode cX5_carryOut 98 = .ok (.aload_n 2, 1) := by decide +kernel
theorem dX5_carryOut_99 : decode cX5_carryOut 99 = .ok (.iconst 1, 1) := by decide +kernel
theorem dX5_carryOut_100 : decode cX5_carryOut 100 = .ok (.invokevirtual 120, 3) := by decide +kernel
theorem dX5_carryOut_103 : decode cX5_carryOut 103 = .ok (.aload_n 2, 1) := by decide +kernel
theorem dX5_carryOut_104 : decode cX5_carryOut 104 = .ok (.iconst 2, 1) := by decide +kernel
theorem dX5_carryOut_105 : decode cX5_carryOut 105 = .ok (.invokevirtual 120, 3) := by decide +kernel
theorem dX5_carryOut_108 : decode cX5_carryOut 108 = .ok (.invokevirtual 84, 3) := by decide +kernel
theorem dX5_carryOut_111 : decode cX5_carryOut 111 = .ok (.ireturn, 1) := by decide +kernel
theorem dX5_carryOut_112 : decode cX5_carryOut 112 = .ok (.aload_n 0, 1) := by decide +kernel
theorem dX5_carryOut_113 : decode cX5_carryOut 113 = .ok (.iload_n 3, 1) := by decide +kernel
theorem dX5_carryOut_114 : decode cX5_carryOut 114 = .ok (.aload_n 2, 1) := by decide +kernel
theorem dX5_carryOut_115 : decode cX5_carryOut 115 = .ok (.iconst 1, 1) := by decide +kernel
theorem dX5_carryOut_116 : decode cX5_carryOut 116 = .ok (.invokevirtual 120, 3) := by decide +kernel
theorem dX5_carryOut_119 : decode cX5_carryOut 119 = .ok (.invokevirtual 88, 3) := by decide +kernel
theorem dX5_carryOut_122 : decode cX5_carryOut 122 = .ok (.ireturn, 1) := by decide +kernel
theorem dX5_carryOut_123 : decode cX5_carryOut 123 = .ok (.aload_n 0, 1) := by decide +kernel
theorem dX5_carryOut_124 : decode cX5_carryOut 124 = .ok (.iload_n 3, 1) := by decide +kernel
theorem dX5_carryOut_125 : decode cX5_carryOut 125 = .ok (.invokevirtual 94, 3) := by decide +kernel
theorem dX5_carryOut_128 : decode cX5_carryOut 128 = .ok (.ireturn, 1) := by decide +kernel
theorem dX5_carryOut_129 : decode cX5_carryOut 129 = .ok (.aload_n 0, 1) := by decide +kernel
theorem dX5_carryOut_130 : decode cX5_carryOut 130 = .ok (.iload_n 3, 1) := by decide +kernel
theorem dX5_carryOut_131 : decode cX5_carryOut 131 = .ok (.invokevirtual 97, 3) := by decide +kernel
theorem dX5_carryOut_134 : decode cX5_carryOut 134 = .ok (.ireturn, 1) := by decide +kernel
theorem dX5_carryOut_135 : decode cX5_carryOut 135 = .ok (.aload_n 0, 1) := by decide +kernel
theorem dX5_carryOut_136 : decode cX5_carryOut 136 = .ok (.iload_n 3, 1) := by decide +kernel
theorem dX5_carryOut_137 : decode cX5_carryOut 137 = .ok (.invokevirtual 100, 3) := by decide +kernel
theorem dX5_carryOut_140 : decode cX5_carryOut 140 = .ok (.ireturn, 1) := by decide +kernel
theorem dX5_carryOut_141 : decode cX5_carryOut 141 = .ok (.aload_n 0, 1) := by decide +kernel
theorem dX5_carryOut_142 : decode cX5_carryOut 142 = .ok (.iload_n 3, 1) := by decide +kernel
theorem dX5_carryOut_143 : decode cX5_carryOut 143 = .ok (.invokevirtual 103, 3) := by decide +kernel
theorem dX5_carryOut_146 : decode cX5_carryOut 146 = .ok (.ireturn, 1) := by decide +kernel
theorem dX5_carryOut_147 : decode cX5_carryOut 147 = .ok (.aload_n 0, 1) := by decide +kernel
theorem dX5_carryOut_148 : decode cX5_carryOut 148 = .ok (.iload_n 3, 1) := by decide +kernel
theorem dX5_carryOut_149 : decode cX5_carryOut 149 = .ok (.invokevirtual 109, 3) := by decide +kernel
theorem dX5_carryOut_152 : decode cX5_carryOut 152 = .ok (.ireturn, 1) := by decide +kernel
theorem dX5_driveStake_0 : decode cX5_driveStake 0 = .ok (.iload_n 1, 1) := by decide +kernel
theorem dX5_driveStake_1 : decode cX5_driveStake 1 = .ok (.invokestatic 215, 3) := by decide +kernel
theorem dX5_driveStake_4 : decode cX5_driveStake 4 = .ok (.ifCond .ne 10, 3) := by decide +kernel
theorem dX5_driveStake_7 : decode cX5_driveStake 7 = .ok (.aload_n 0, 1) := by decide +kernel
theorem dX5_driveStake_8 : decode cX5_driveStake 8 = .ok (.iconst 1, 1) := by decide +kernel
theorem dX5_driveStake_9 : decode cX5_driveStake 9 = .ok (.iconst 0, 1) := by decide +kernel
theorem dX5_driveStake_10 : decode cX5_driveStake 10 = .ok (.invokevirtual 352, 3) := by decide +kernel
theorem dX5_driveStake_13 : decode cX5_driveStake 13 = .ok (.ireturn, 1) := by decide +kernel
theorem dX5_driveStake_14 : decode cX5_driveStake 14 = .ok (.aload_n 0, 1) := by decide +kernel
theorem dX5_driveStake_15 : decode cX5_driveStake 15 = .ok (.getfield 10, 3) := by decide +kernel
theorem dX5_driveStake_18 : decode cX5_driveStake 18 = .ok (.getfield 116, 3) := by decide +kernel
theorem dX5_driveStake_21 : decode cX5_driveStake 21 = .ok (.invokevirtual 355, 3) := by decide +kernel
theorem dX5_driveStake_24 : decode cX5_driveStake 24 = .ok (.ifCond .eq 11, 3) := by decide +kernel
theorem dX5_driveStake_27 : decode cX5_driveStake 27 = .ok (.aload_n 0, 1) := by decide +kernel
theorem dX5_driveStake_28 : decode cX5_driveStake 28 = .ok (.iconst 2, 1) := by decide +kernel
theorem dX5_driveStake_29 : decode cX5_driveStake 29 = .ok (.bipush 10, 2) := by decide +kernel
theorem dX5_driveStake_31 : decode cX5_driveStake 31 = .ok (.invokevirtual 352, 3) := by decide +kernel
theorem dX5_driveStake_34 : decode cX5_driveStake 34 = .ok (.ireturn, 1) := by decide +kernel
theorem dX5_driveStake_35 : decode cX5_driveStake 35 = .ok (.aload_n 0, 1) := by decide +kernel
theorem dX5_driveStake_36 : decode cX5_driveStake 36 = .ok (.getfield 10, 3) := by decide +kernel
theorem dX5_driveStake_39 : decode cX5_driveStake 39 = .ok (.getfield 116, 3) := by decide +kernel
theorem dX5_driveStake_42 : decode cX5_driveStake 42 = .ok (.iload_n 1, 1) := by decide +kernel
theorem dX5_driveStake_43 : decode cX5_driveStake 43 = .ok (.invokevirtual 356, 3) := by decide +kernel
theorem dX5_driveStake_46 : decode cX5_driveStake 46 = .ok (.istore_n 2, 1) := by decide +kernel
theorem dX5_driveStake_47 : decode cX5_driveStake 47 = .ok (.iload_n 2, 1) := by decide +kernel
theorem dX5_driveStake_48 : decode cX5_driveStake 48 = .ok (.iconst (-1), 1) := by decide +kernel
theorem dX5_driveStake_49 : decode cX5_driveStake 49 = .ok (.if_icmp .eq 10, 3) := by decide +kernel
theorem dX5_driveStake_52 : decode cX5_driveStake 52 = .ok (.aload_n 0, 1) := by decide +kernel
theorem dX5_driveStake_53 : decode cX5_driveStake 53 = .ok (.iconst 4, 1) := by decide +kernel
theorem dX5_driveStake_54 : decode cX5_driveStake 54 = .ok (.iload_n 2, 1) := by decide +kernel
theorem dX5_driveStake_55 : decode cX5_driveStake 55 = .ok (.invokevirtual 352, 3) := by decide +kernel
theorem dX5_driveStake_58 : decode cX5_driveStake 58 = .ok (.ireturn, 1) := by decide +kernel
theorem dX5_driveStake_59 : decode cX5_driveStake 59 = .ok (.aload_n 0, 1) := by decide +kernel
theorem dX5_driveStake_60 : decode cX5_driveStake 60 = .ok (.getfield 10, 3) := by decide +kernel
theorem dX5_driveStake_63 : decode cX5_driveStake 63 = .ok (.getfield 116, 3) := by decide +kernel
theorem dX5_driveStake_66 : decode cX5_driveStake 66 = .ok (.iload_n 1, 1) := by decide +kernel
theorem dX5_driveStake_67 : decode cX5_driveStake 67 = .ok (.invokevirtual 359, 3) := by decide +kernel
theorem dX5_driveStake_70 : decode cX5_driveStake 70 = .ok (.ireturn, 1) := by decide +kernel
theorem dX5_setUpPost_0 : decode cX5_setUpPost 0 = .ok (.iload_n 1, 1) := by decide +kernel
theorem dX5_setUpPost_1 : decode cX5_setUpPost 1 = .ok (.invokestatic 215, 3) := by decide +kernel
theorem dX5_setUpPost_4 : decode cX5_setUpPost 4 = .ok (.ifCond .eq 14, 3) := by decide +kernel
theorem dX5_setUpPost_7 : decode cX5_setUpPost 7 = .ok (.iload_n 2, 1) := by decide +kernel
theorem dX5_setUpPost_8 : decode cX5_setUpPost 8 = .ok (.iconst 1, 1) := by decide +kernel
theorem dX5_setUpPost_9 : decode cX5_setUpPost 9 = .ok (.if_icmp .lt 9, 3) := by decide +kernel
theorem dX5_setUpPost_12 : decode cX5_setUpPost 12 = .ok (.iload_n 2, 1) := by decide +kernel
theorem dX5_setUpPost_13 : decode cX5_setUpPost 13 = .ok (.bipush 9, 2) := by decide +kernel
theorem dX5_setUpPost_15 : decode cX5_setUpPost 15 = .ok (.if_icmp .le 10, 3) := by decide +kernel
theorem dX5_setUpPost_18 : decode cX5_setUpPost 18 = .ok (.aload_n 0, 1) := by decide +kernel
theorem dX5_setUpPost_19 : decode cX5_setUpPost 19 = .ok (.iconst 1, 1) := by decide +kernel
theorem dX5_setUpPost_20 : decode cX5_setUpPost 20 = .ok (.iconst 0, 1) := by decide +kernel
theorem dX5_setUpPost_21 : decode cX5_setUpPost 21 = .ok (.invokevirtual 352, 3) := by decide +kernel
theorem dX5_setUpPost_24 : decode cX5_setUpPost 24 = .ok (.ireturn, 1) := by decide +kernel
theorem dX5_setUpPost_25 : decode cX5_setUpPost 25 = .ok (.aload_n 0, 1) := by decide +kernel
theorem dX5_setUpPost_26 : decode cX5_setUpPost 26 = .ok (.getfield 10, 3) := by decide +kernel
theorem dX5_setUpPost_29 : decode cX5_setUpPost 29 = .ok (.getfield 131, 3) := by decide +kernel
theorem dX5_setUpPost_32 : decode cX5_setUpPost 32 = .ok (.invokevirtual 355, 3) := by decide +kernel
theorem dX5_setUpPost_35 : decode cX5_setUpPost 35 = .ok (.ifCond .eq 10, 3) := by decide +kernel
theorem dX5_setUpPost_38 : decode cX5_setUpPost 38 = .ok (.aload_n 0, 1) := by decide +kernel
theorem dX5_setUpPost_39 : decode cX5_setUpPost 39 = .ok (.iconst 2, 1) := by decide +kernel
theorem dX5_setUpPost_40 : decode cX5_setUpPost 40 = .ok (.iconst 4, 1) := by decide +kernel
theorem dX5_setUpPost_41 : decode cX5_setUpPost 41 = .ok (.invokevirtual 352, 3) := by decide +kernel
theorem dX5_setUpPost_44 : decode cX5_setUpPost 44 = .ok (.ireturn, 1) := by decide +kernel
theorem dX5_setUpPost_45 : decode cX5_setUpPost 45 = .ok (.aload_n 0, 1) := by decide +kernel
theorem dX5_setUpPost_46 : decode cX5_setUpPost 46 = .ok (.getfield 10, 3) := by decide +kernel
theorem dX5_setUpPost_49 : decode cX5_setUpPost 49 = .ok (.getfield 128, 3) := by decide +kernel
theorem dX5_setUpPost_52 : decode cX5_setUpPost 52 = .ok (.iload_n 2, 1) := by decide +kernel
theorem dX5_setUpPost_53 : decode cX5_setUpPost 53 = .ok (.invokevirtual 359, 3) := by decide +kernel
theorem dX5_setUpPost_56 : decode cX5_setUpPost 56 = .ok (.pop, 1) := by decide +kernel
theorem dX5_setUpPost_57 : decode cX5_setUpPost 57 = .ok (.aload_n 0, 1) := by decide +kernel
theorem dX5_setUpPost_58 : decode cX5_setUpPost 58 = .ok (.getfield 10, 3) := by decide +kernel
theorem dX5_setUpPost_61 : decode cX5_setUpPost 61 = .ok (.getfield 131, 3) := by decide +kernel
theorem dX5_setUpPost_64 : decode cX5_setUpPost 64 = .ok (.iload_n 1, 1) := by decide +kernel
theorem dX5_setUpPost_65 : decode cX5_setUpPost 65 = .ok (.invokevirtual 359, 3) := by decide +kernel
theorem dX5_setUpPost_68 : decode cX5_setUpPost 68 = .ok (.ireturn, 1) := by decide +kernel
theorem dX5_addSheet_0 : decode cX5_addSheet 0 = .ok (.aload_n 0, 1) := by decide +kernel
theorem dX5_addSheet_1 : decode cX5_addSheet 1 = .ok (.getfield 10, 3) := by decide +kernel
theorem dX5_addSheet_4 : decode cX5_addSheet 4 = .ok (.getfield 315, 3) := by decide +kernel
theorem dX5_addSheet_7 : decode cX5_addSheet 7 = .ok (.iconst 3, 1) := by decide +kernel
theorem dX5_addSheet_8 : decode cX5_addSheet 8 = .ok (.if_icmp .lt 10, 3) := by decide +kernel
theorem dX5_addSheet_11 : decode cX5_addSheet 11 = .ok (.aload_n 0, 1) := by decide +kernel
theorem dX5_addSheet_12 : decode cX5_addSheet 12 = .ok (.iconst 2, 1) := by decide +kernel
theorem dX5_addSheet_13 : decode cX5_addSheet 13 = .ok (.iconst 3, 1) := by decide +kernel
theorem dX5_addSheet_14 : decode cX5_addSheet 14 = .ok (.invokevirtual 352, 3) := by decide +kernel
theorem dX5_addSheet_17 : decode cX5_addSheet 17 = .ok (.ireturn, 1) := by decide +kernel
theorem dX5_addSheet_18 : decode cX5_addSheet 18 = .ok (.aload_n 0, 1) := by decide +kernel
theorem dX5_addSheet_19 : decode cX5_addSheet 19 = .ok (.getfield 10, 3) := by decide +kernel
theorem dX5_addSheet_22 : decode cX5_addSheet 22 = .ok (.dup, 1) := by decide +kernel
theorem dX5_addSheet_23 : decode cX5_addSheet 23 = .ok (.getfield 315, 3) := by decide +kernel
theorem dX5_addSheet_26 : decode cX5_addSheet 26 = .ok (.iconst 1, 1) := by decide +kernel
theorem dX5_addSheet_27 : decode cX5_addSheet 27 = .ok (.iadd, 1) := by decide +kernel
theorem dX5_addSheet_28 : decode cX5_addSheet 28 = .ok (.putfield 315, 3) := by decide +kernel
theorem dX5_addSheet_31 : decode cX5_addSheet 31 = .ok (.aload_n 0, 1) := by decide +kernel
theorem dX5_addSheet_32 : decode cX5_addSheet 32 = .ok (.getfield 10, 3) := by decide +kernel
theorem dX5_addSheet_35 : decode cX5_addSheet 35 = .ok (.getfield 315, 3) := by decide +kernel
theorem dX5_addSheet_38 : decode cX5_addSheet 38 = .ok (.iconst 1, 1) := by decide +kernel
theorem dX5_addSheet_39 : decode cX5_addSheet 39 = .ok (.isub, 1) := by decide +kernel
theorem dX5_addSheet_40 : decode cX5_addSheet 40 = .ok (.ireturn, 1) := by decide +kernel
theorem dX5_setDayHeat_0 : decode cX5_setDayHeat 0 = .ok (.iload_n 1, 1) := by decide +kernel
theorem dX5_setDayHeat_1 : decode cX5_setDayHeat 1 = .ok (.ifCond .lt 9, 3) := by decide +kernel
theorem dX5_setDayHeat_4 : decode cX5_setDayHeat 4 = .ok (.iload_n 1, 1) := by decide +kernel
theorem dX5_setDayHeat_5 : decode cX5_setDayHeat 5 = .ok (.bipush 9, 2) := by decide +kernel
theorem dX5_setDayHeat_7 : decode cX5_setDayHeat 7 = .ok (.if_icmp .le 10, 3) := by decide +kernel
theorem dX5_setDayHeat_10 : decode cX5_setDayHeat 10 = .ok (.aload_n 0, 1) := by decide +kernel
theorem dX5_setDayHeat_11 : decode cX5_setDayHeat 11 = .ok (.iconst 1, 1) := by decide +kernel
theorem dX5_setDayHeat_12 : decode cX5_setDayHeat 12 = .ok (.iconst 0, 1) := by decide +kernel
theorem dX5_setDayHeat_13 : decode cX5_setDayHeat 13 = .ok (.invokevirtual 352, 3) := by decide +kernel
theorem dX5_setDayHeat_16 : decode cX5_setDayHeat 16 = .ok (.ireturn, 1) := by decide +kernel
theorem dX5_setDayHeat_17 : decode cX5_setDayHeat 17 = .ok (.aload_n 0, 1) := by decide +kernel
theorem dX5_setDayHeat_18 : decode cX5_setDayHeat 18 = .ok (.getfield 10, 3) := by decide +kernel
theorem dX5_setDayHeat_21 : decode cX5_setDayHeat 21 = .ok (.iload_n 1, 1) := by decide +kernel
theorem dX5_setDayHeat_22 : decode cX5_setDayHeat 22 = .ok (.putfield 312, 3) := by decide +kernel
theorem dX5_setDayHeat_25 : decode cX5_setDayHeat 25 = .ok (.aload_n 0, 1) := by decide +kernel
theorem dX5_setDayHeat_26 : decode cX5_setDayHeat 26 = .ok (.getfield 10, 3) := by decide +kernel
theorem dX5_setDayHeat_29 : decode cX5_setDayHeat 29 = .ok (.invokevirtual 185, 3) := by decide +kernel
theorem dX5_setDayHeat_32 : decode cX5_setDayHeat 32 = .ok (.ireturn, 1) := by decide +kernel
theorem dX5_drawSighted_0 : decode cX5_drawSighted 0 = .ok (.aload_n 0, 1) := by decide +kernel
theorem dX5_drawSighted_1 : decode cX5_drawSighted 1 = .ok (.getfield 10, 3) := by decide +kernel
theorem dX5_drawSighted_4 : decode cX5_drawSighted 4 = .ok (.getfield 116, 3) := by decide +kernel
theorem dX5_drawSighted_7 : decode cX5_drawSighted 7 = .ok (.iload_n 1, 1) := by decide +kernel
theorem dX5_drawSighted_8 : decode cX5_drawSighted 8 = .ok (.invokevirtual 362, 3) := by decide +kernel
theorem dX5_drawSighted_11 : decode cX5_drawSighted 11 = .ok (.ifCond .ne 10, 3) := by decide +kernel
theorem dX5_drawSighted_14 : decode cX5_drawSighted 14 = .ok (.aload_n 0, 1) := by decide +kernel
theorem dX5_drawSighted_15 : decode cX5_drawSighted 15 = .ok (.iconst 3, 1) := by decide +kernel
theorem dX5_drawSighted_16 : decode cX5_drawSighted 16 = .ok (.iload_n 1, 1) := by decide +kernel
theorem dX5_drawSighted_17 : decode cX5_drawSighted 17 = .ok (.invokevirtual 352, 3) := by decide +kernel
theorem dX5_drawSighted_20 : decode cX5_drawSighted 20 = .ok (.ireturn, 1) := by decide +kernel
theorem dX5_drawSighted_21 : decode cX5_drawSighted 21 = .ok (.aload_n 0, 1) := by decide +kernel
theorem dX5_drawSighted_22 : decode cX5_drawSighted 22 = .ok (.getfield 10, 3) := by decide +kernel
theorem dX5_drawSighted_25 : decode cX5_drawSighted 25 = .ok (.getfield 131, 3) := by decide +kernel
theorem dX5_drawSighted_28 : decode cX5_drawSighted 28 = .ok (.iload_n 2, 1) := by decide +kernel
theorem dX5_drawSighted_29 : decode cX5_drawSighted 29 = .ok (.invokevirtual 362, 3) := by decide +kernel
theorem dX5_drawSighted_32 : decode cX5_drawSighted 32 = .ok (.ifCond .ne 10, 3) := by decide +kernel
theorem dX5_drawSighted_35 : decode cX5_drawSighted 35 = .ok (.aload_n 0, 1) := by decide +kernel
theorem dX5_drawSighted_36 : decode cX5_drawSighted 36 = .ok (.iconst 3, 1) := by decide +kernel
theorem dX5_drawSighted_37 : decode cX5_drawSighted 37 = .ok (.iload_n 2, 1) := by decide +kernel
theorem dX5_drawSighted_38 : decode cX5_drawSighted 38 = .ok (.invokevirtual 352, 3) := by decide +kernel
theorem dX5_drawSighted_41 : decode cX5_drawSighted 41 = .ok (.ireturn, 1) := by decide +kernel
theorem dX5_drawSighted_42 : decode cX5_drawSighted 42 = .ok (.aload_n 0, 1) := by decide +kernel
theorem dX5_drawSighted_43 : decode cX5_drawSighted 43 = .ok (.getfield 10, 3) := by decide +kernel
theorem dX5_drawSighted_46 : decode cX5_drawSighted 46 = .ok (.iload_n 3, 1) := by decide +kernel
theorem dX5_drawSighted_47 : decode cX5_drawSighted 47 = .ok (.invokevirtual 365, 3) := by decide +kernel
theorem dX5_drawSighted_50 : decode cX5_drawSighted 50 = .ok (.ifCond .ne 10, 3) := by decide +kernel
theorem dX5_drawSighted_53 : decode cX5_drawSighted 53 = .ok (.aload_n 0, 1) := by decide +kernel
theorem dX5_drawSighted_54 : decode cX5_drawSighted 54 = .ok (.iconst 3, 1) := by decide +kernel
theorem dX5_drawSighted_55 : decode cX5_drawSighted 55 = .ok (.iload_n 3, 1) := by decide +kernel
theorem dX5_drawSighted_56 : decode cX5_drawSighted 56 = .ok (.invokevirtual 352, 3) := by decide +kernel
theorem dX5_drawSighted_59 : decode cX5_drawSighted 59 = .ok (.ireturn, 1) := by decide +kernel
theorem dX5_drawSighted_60 : decode cX5_drawSighted 60 = .ok (.aload_n 0, 1) := by decide +kernel
theorem dX5_drawSighted_61 : decode cX5_drawSighted 61 = .ok (.getfield 10, 3) := by decide +kernel
theorem dX5_drawSighted_64 : decode cX5_drawSighted 64 = .ok (.iload_n 1, 1) := by decide +kernel
theorem dX5_drawSighted_65 : decode cX5_drawSighted 65 = .ok (.iload_n 2, 1) := by decide +kernel
theorem dX5_drawSighted_66 : decode cX5_drawSighted 66 = .ok (.invokevirtual 368, 3) := by decide +kernel
theorem dX5_drawSighted_69 : decode cX5_drawSighted 69 = .ok (.istore 4, 2) := by decide +kernel
theorem dX5_drawSighted_71 : decode cX5_drawSighted 71 = .ok (.iload 4, 2) := by decide +kernel
theorem dX5_drawSighted_73 : decode cX5_drawSighted 73 = .ok (.ifCond .le 11, 3) := by decide +kernel
theorem dX5_drawSighted_76 : decode cX5_drawSighted 76 = .ok (.aload_n 0, 1) := by decide +kernel
theorem dX5_drawSighted_77 : decode cX5_drawSighted 77 = .ok (.iconst 5, 1) := by decide +kernel
theorem dX5_drawSighted_78 : decode cX5_drawSighted 78 = .ok (.iload 4, 2) := by decide +kernel
theorem dX5_drawSighted_80 : decode cX5_drawSighted 80 = .ok (.invokevirtual 352, 3) := by decide +kernel
theorem dX5_drawSighted_83 : decode cX5_drawSighted 83 = .ok (.ireturn, 1) := by decide +kernel
theorem dX5_drawSighted_84 : decode cX5_drawSighted 84 = .ok (.aload_n 0, 1) := by decide +kernel
theorem dX5_drawSighted_85 : decode cX5_drawSighted 85 = .ok (.getfield 10, 3) := by decide +kernel
theorem dX5_drawSighted_88 : decode cX5_drawSighted 88 = .ok (.iload_n 1, 1) := by decide +kernel
theorem dX5_drawSighted_89 : decode cX5_drawSighted 89 = .ok (.iload_n 2, 1) := by decide +kernel
theorem dX5_drawSighted_90 : decode cX5_drawSighted 90 = .ok (.invokevirtual 179, 3) := by decide +kernel
theorem dX5_drawSighted_93 : decode cX5_drawSighted 93 = .ok (.istore 5, 2) := by decide +kernel
theorem dX5_drawSighted_95 : decode cX5_drawSighted 95 = .ok (.aload_n 0, 1) := by decide +kernel
theorem dX5_drawSighted_96 : decode cX5_drawSighted 96 = .ok (.getfield 10, 3) := by decide +kernel
theorem dX5_drawSighted_99 : decode cX5_drawSighted 99 = .ok (.iload_n 1, 1) := by decide +kernel
theorem dX5_drawSighted_100 : decode cX5_drawSighted 100 = .ok (.iload_n 3, 1) := by decide +kernel
theorem dX5_drawSighted_101 : decode cX5_drawSighted 101 = .ok (.iload 5, 2) := by decide +kernel
theorem dX5_drawSighted_103 : decode cX5_drawSighted 103 = .ok (.invokevirtual 371, 3) := by decide +kernel
theorem dX5_drawSighted_106 : decode cX5_drawSighted 106 = .ok (.aload_n 0, 1) := by decide +kernel
theorem dX5_drawSighted_107 : decode cX5_drawSighted 107 = .ok (.getfield 10, 3) := by decide +kernel
theorem dX5_drawSighted_110 : decode cX5_drawSighted 110 = .ok (.dup, 1) := by decide +kernel
theorem dX5_drawSighted_111 : decode cX5_drawSighted 111 = .ok (.getfield 327, 3) := by decide +kernel
theorem dX5_drawSighted_114 : decode cX5_drawSighted 114 = .ok (.iconst 1, 1) := by decide +kernel
theorem dX5_drawSighted_115 : decode cX5_drawSighted 115 = .ok (.iadd, 1) := by decide +kernel
theorem dX5_drawSighted_116 : decode cX5_drawSighted 116 = .ok (.putfield 327, 3) := by decide +kernel
theorem dX5_drawSighted_119 : decode cX5_drawSighted 119 = .ok (.iload 5, 2) := by decide +kernel
theorem dX5_drawSighted_121 : decode cX5_drawSighted 121 = .ok (.ireturn, 1) := by decide +kernel
theorem dX5_eraseDrawn_0 : decode cX5_eraseDrawn 0 = .ok (.aload_n 0, 1) := by decide +kernel
theorem dX5_eraseDrawn_1 : decode cX5_eraseDrawn 1 = .ok (.getfield 10, 3) := by decide +kernel
theorem dX5_eraseDrawn_4 : decode cX5_eraseDrawn 4 = .ok (.getfield 116, 3) := by decide +kernel
theorem dX5_eraseDrawn_7 : decode cX5_eraseDrawn 7 = .ok (.iload_n 1, 1) := by decide +kernel
theorem dX5_eraseDrawn_8 : decode cX5_eraseDrawn 8 = .ok (.invokevirtual 362, 3) := by decide +kernel
theorem dX5_eraseDrawn_11 : decode cX5_eraseDrawn 11 = .ok (.ifCond .ne 10, 3) := by decide +kernel
theorem dX5_eraseDrawn_14 : decode cX5_eraseDrawn 14 = .ok (.aload_n 0, 1) := by decide +kernel
theorem dX5_eraseDrawn_15 : decode cX5_eraseDrawn 15 = .ok (.iconst 3, 1) := by decide +kernel
theorem dX5_eraseDrawn_16 : decode cX5_eraseDrawn 16 = .ok (.iload_n 1, 1) := by decide +kernel
theorem dX5_eraseDrawn_17 : decode cX5_eraseDrawn 17 = .ok (.invokevirtual 352, 3) := by decide +kernel
theorem dX5_eraseDrawn_20 : decode cX5_eraseDrawn 20 = .ok (.ireturn, 1) := by decide +kernel
theorem dX5_eraseDrawn_21 : decode cX5_eraseDrawn 21 = .ok (.aload_n 0, 1) := by decide +kernel
theorem dX5_eraseDrawn_22 : decode cX5_eraseDrawn 22 = .ok (.getfield 10, 3) := by decide +kernel
theorem dX5_eraseDrawn_25 : decode cX5_eraseDrawn 25 = .ok (.iload_n 2, 1) := by decide +kernel
theorem dX5_eraseDrawn_26 : decode cX5_eraseDrawn 26 = .ok (.invokevirtual 365, 3) := by decide +kernel
theorem dX5_eraseDrawn_29 : decode cX5_eraseDrawn 29 = .ok (.ifCond .ne 10, 3) := by decide +kernel
theorem dX5_eraseDrawn_32 : decode cX5_eraseDrawn 32 = .ok (.aload_n 0, 1) := by decide +kernel
theorem dX5_eraseDrawn_33 : decode cX5_eraseDrawn 33 = .ok (.iconst 3, 1) := by decide +kernel
theorem dX5_eraseDrawn_34 : decode cX5_eraseDrawn 34 = .ok (.iload_n 2, 1) := by decide +kernel
theorem dX5_eraseDrawn_35 : decode cX5_eraseDrawn 35 = .ok (.invokevirtual 352, 3) := by decide +kernel
theorem dX5_eraseDrawn_38 : decode cX5_eraseDrawn 38 = .ok (.ireturn, 1) := by decide +kernel
theorem dX5_eraseDrawn_39 : decode cX5_eraseDrawn 39 = .ok (.aload_n 0, 1) := by decide +kernel
theorem dX5_eraseDrawn_40 : decode cX5_eraseDrawn 40 = .ok (.getfield 10, 3) := by decide +kernel
theorem dX5_eraseDrawn_43 : decode cX5_eraseDrawn 43 = .ok (.iload_n 1, 1) := by decide +kernel
theorem dX5_eraseDrawn_44 : decode cX5_eraseDrawn 44 = .ok (.iload_n 2, 1) := by decide +kernel
theorem dX5_eraseDrawn_45 : decode cX5_eraseDrawn 45 = .ok (.invokevirtual 163, 3) := by decide +kernel
theorem dX5_eraseDrawn_48 : decode cX5_eraseDrawn 48 = .ok (.istore_n 3, 1) := by decide +kernel
theorem dX5_eraseDrawn_49 : decode cX5_eraseDrawn 49 = .ok (.iload_n 3, 1) := by decide +kernel
theorem dX5_eraseDrawn_50 : decode cX5_eraseDrawn 50 = .ok (.iconst (-1), 1) := by decide +kernel
theorem dX5_eraseDrawn_51 : decode cX5_eraseDrawn 51 = .ok (.if_icmp .ne 11, 3) := by decide +kernel
theorem dX5_eraseDrawn_54 : decode cX5_eraseDrawn 54 = .ok (.aload_n 0, 1) := by decide +kernel
theorem dX5_eraseDrawn_55 : decode cX5_eraseDrawn 55 = .ok (.bipush 6, 2) := by decide +kernel
theorem dX5_eraseDrawn_57 : decode cX5_eraseDrawn 57 = .ok (.iload_n 1, 1) := by decide +kernel
theorem dX5_eraseDrawn_58 : decode cX5_eraseDrawn 58 = .ok (.invokevirtual 352, 3) := by decide +kernel
theorem dX5_eraseDrawn_61 : decode cX5_eraseDrawn 61 = .ok (.ireturn, 1) := by decide +kernel
theorem dX5_eraseDrawn_62 : decode cX5_eraseDrawn 62 = .ok (.aload_n 0, 1) := by decide +kernel
theorem dX5_eraseDrawn_63 : decode cX5_eraseDrawn 63 = .ok (.getfield 10, 3) := by decide +kernel
theorem dX5_eraseDrawn_66 : decode cX5_eraseDrawn 66 = .ok (.iload_n 1, 1) := by decide +kernel
theorem dX5_eraseDrawn_67 : decode cX5_eraseDrawn 67 = .ok (.iload_n 2, 1) := by decide +kernel
theorem dX5_eraseDrawn_68 : decode cX5_eraseDrawn 68 = .ok (.iconst (-1), 1) := by decide +kernel
theorem dX5_eraseDrawn_69 : decode cX5_eraseDrawn 69 = .ok (.invokevirtual 371, 3) := by decide +kernel
theorem dX5_eraseDrawn_72 : decode cX5_eraseDrawn 72 = .ok (.iload_n 3, 1) := by decide +kernel
theorem dX5_eraseDrawn_73 : decode cX5_eraseDrawn 73 = .ok (.ireturn, 1) := by decide +kernel
theorem dX5_bringCamel_0 : decode cX5_bringCamel 0 = .ok (.iload_n 1, 1) := by decide +kernel
theorem dX5_bringCamel_1 : decode cX5_bringCamel 1 = .ok (.invokestatic 215, 3) := by decide +kernel
theorem dX5_bringCamel_4 : decode cX5_bringCamel 4 = .ok (.ifCond .ne 10, 3) := by decide +kernel
theorem dX5_bringCamel_7 : decode cX5_bringCamel 7 = .ok (.aload_n 0, 1) := by decide +kernel
theorem dX5_bringCamel_8 : decode cX5_bringCamel 8 = .ok (.iconst 1, 1) := by decide +kernel
theorem dX5_bringCamel_9 : decode cX5_bringCamel 9 = .ok (.iconst 0, 1) := by decide +kernel
theorem dX5_bringCamel_10 : decode cX5_bringCamel 10 = .ok (.invokevirtual 352, 3) := by decide +kernel
theorem dX5_bringCamel_13 : decode cX5_bringCamel 13 = .ok (.ireturn, 1) := by decide +kernel
theorem dX5_bringCamel_14 : decode cX5_bringCamel 14 = .ok (.aload_n 0, 1) := by decide +kernel
theorem dX5_bringCamel_15 : decode cX5_bringCamel 15 = .ok (.getfield 10, 3) := by decide +kernel
theorem dX5_bringCamel_18 : decode cX5_bringCamel 18 = .ok (.getfield 137, 3) := by decide +kernel
theorem dX5_bringCamel_21 : decode cX5_bringCamel 21 = .ok (.invokevirtual 355, 3) := by decide +kernel
theorem dX5_bringCamel_24 : decode cX5_bringCamel 24 = .ok (.ifCond .eq 11, 3) := by decide +kernel
theorem dX5_bringCamel_27 : decode cX5_bringCamel 27 = .ok (.aload_n 0, 1) := by decide +kernel
theorem dX5_bringCamel_28 : decode cX5_bringCamel 28 = .ok (.iconst 2, 1) := by decide +kernel
theorem dX5_bringCamel_29 : decode cX5_bringCamel 29 = .ok (.bipush 6, 2) := by decide +kernel
theorem dX5_bringCamel_31 : decode cX5_bringCamel 31 = .ok (.invokevirtual 352, 3) := by decide +kernel
theorem dX5_bringCamel_34 : decode cX5_bringCamel 34 = .ok (.ireturn, 1) := by decide +kernel
theorem dX5_bringCamel_35 : decode cX5_bringCamel 35 = .ok (.aload_n 0, 1) := by decide +kernel
theorem dX5_bringCamel_36 : decode cX5_bringCamel 36 = .ok (.getfield 10, 3) := by decide +kernel
theorem dX5_bringCamel_39 : decode cX5_bringCamel 39 = .ok (.getfield 140, 3) := by decide +kernel
theorem dX5_bringCamel_42 : decode cX5_bringCamel 42 = .ok (.iconst 0, 1) := by decide +kernel
theorem dX5_bringCamel_43 : decode cX5_bringCamel 43 = .ok (.invokevirtual 359, 3) := by decide +kernel
theorem dX5_bringCamel_46 : decode cX5_bringCamel 46 = .ok (.pop, 1) := by decide +kernel
theorem dX5_bringCamel_47 : decode cX5_bringCamel 47 = .ok (.aload_n 0, 1) := by decide +kernel
theorem dX5_bringCamel_48 : decode cX5_bringCamel 48 = .ok (.getfield 10, 3) := by decide +kernel
theorem dX5_bringCamel_51 : decode cX5_bringCamel 51 = .ok (.getfield 143, 3) := by decide +kernel
theorem dX5_bringCamel_54 : decode cX5_bringCamel 54 = .ok (.iconst 0, 1) := by decide +kernel
theorem dX5_bringCamel_55 : decode cX5_bringCamel 55 = .ok (.invokevirtual 359, 3) := by decide +kernel
theorem dX5_bringCamel_58 : decode cX5_bringCamel 58 = .ok (.pop, 1) := by decide +kernel
theorem dX5_bringCamel_59 : decode cX5_bringCamel 59 = .ok (.aload_n 0, 1) := by decide +kernel
theorem dX5_bringCamel_60 : decode cX5_bringCamel 60 = .ok (.getfield 10, 3) := by decide +kernel
theorem dX5_bringCamel_63 : decode cX5_bringCamel 63 = .ok (.getfield 150, 3) := by decide +kernel
theorem dX5_bringCamel_66 : decode cX5_bringCamel 66 = .ok (.iconst 0, 1) := by decide +kernel
theorem dX5_bringCamel_67 : decode cX5_bringCamel 67 = .ok (.invokevirtual 359, 3) := by decide +kernel
theorem dX5_bringCamel_70 : decode cX5_bringCamel 70 = .ok (.pop, 1) := by decide +kernel
theorem dX5_bringCamel_71 : decode cX5_bringCamel 71 = .ok (.aload_n 0, 1) := by decide +kernel
theorem dX5_bringCamel_72 : decode cX5_bringCamel 72 = .ok (.getfield 10, 3) := by decide +kernel
theorem dX5_bringCamel_75 : decode cX5_bringCamel 75 = .ok (.getfield 137, 3) := by decide +kernel
theorem dX5_bringCamel_78 : decode cX5_bringCamel 78 = .ok (.iload_n 1, 1) := by decide +kernel
theorem dX5_bringCamel_79 : decode cX5_bringCamel 79 = .ok (.invokevirtual 359, 3) := by decide +kernel
theorem dX5_bringCamel_82 : decode cX5_bringCamel 82 = .ok (.ireturn, 1) := by decide +kernel
theorem dX5_ringBell_0 : decode cX5_ringBell 0 = .ok (.iload_n 1, 1) := by decide +kernel
theorem dX5_ringBell_1 : decode cX5_ringBell 1 = .ok (.invokestatic 215, 3) := by decide +kernel
theorem dX5_ringBell_4 : decode cX5_ringBell 4 = .ok (.ifCond .ne 10, 3) := by decide +kernel
theorem dX5_ringBell_7 : decode cX5_ringBell 7 = .ok (.aload_n 0, 1) := by decide +kernel
theorem dX5_ringBell_8 : decode cX5_ringBell 8 = .ok (.iconst 1, 1) := by decide +kernel
theorem dX5_ringBell_9 : decode cX5_ringBell 9 = .ok (.iconst 0, 1) := by decide +kernel
theorem dX5_ringBell_10 : decode cX5_ringBell 10 = .ok (.invokevirtual 352, 3) := by decide +kernel
theorem dX5_ringBell_13 : decode cX5_ringBell 13 = .ok (.ireturn, 1) := by decide +kernel
theorem dX5_ringBell_14 : decode cX5_ringBell 14 = .ok (.iconst 0, 1) := by decide +kernel
theorem dX5_ringBell_15 : decode cX5_ringBell 15 = .ok (.istore_n 2, 1) := by decide +kernel
theorem dX5_ringBell_16 : decode cX5_ringBell 16 = .ok (.iconst 0, 1) := by decide +kernel
theorem dX5_ringBell_17 : decode cX5_ringBell 17 = .ok (.istore_n 3, 1) := by decide +kernel
theorem dX5_ringBell_18 : decode cX5_ringBell 18 = .ok (.iload_n 3, 1) := by decide +kernel
theorem dX5_ringBell_19 : decode cX5_ringBell 19 = .ok (.aload_n 0, 1) := by decide +kernel
theorem dX5_ringBell_20 : decode cX5_ringBell 20 = .ok (.getfield 10, 3) := by decide +kernel
theorem dX5_ringBell_23 : decode cX5_ringBell 23 = .ok (.getfield 137, 3) := by decide +kernel
theorem dX5_ringBell_26 : decode cX5_ringBell 26 = .ok (.invokevirtual 171, 3) := by decide +kernel
theorem dX5_ringBell_29 : decode cX5_ringBell 29 = .ok (.if_icmp .ge 41, 3) := by decide +kernel
theorem dX5_ringBell_32 : decode cX5_ringBell 32 = .ok (.aload_n 0, 1) := by decide +kernel
theorem dX5_ringBell_33 : decode cX5_ringBell 33 = .ok (.getfield 10, 3) := by decide +kernel
theorem dX5_ringBell_36 : decode cX5_ringBell 36 = .ok (.iload_n 3, 1) := by decide +kernel
theorem dX5_ringBell_37 : decode cX5_ringBell 37 = .ok (.iload_n 1, 1) := by decide +kernel
theorem dX5_ringBell_38 : decode cX5_ringBell 38 = .ok (.invokevirtual 374, 3) := by decide +kernel
theorem dX5_ringBell_41 : decode cX5_ringBell 41 = .ok (.iload_n 2, 1) := by decide +kernel
theorem dX5_ringBell_42 : decode cX5_ringBell 42 = .ok (.aload_n 0, 1) := by decide +kernel
theorem dX5_ringBell_43 : decode cX5_ringBell 43 = .ok (.getfield 10, 3) := by decide +kernel
theorem dX5_ringBell_46 : decode cX5_ringBell 46 = .ok (.getfield 137, 3) := by decide +kernel
theorem dX5_ringBell_49 : decode cX5_ringBell 49 = .ok (.iload_n 3, 1) := by decide +kernel
theorem dX5_ringBell_50 : decode cX5_ringBell 50 = .ok (.invokevirtual 120, 3) := by decide +kernel
theorem dX5_ringBell_53 : decode cX5_ringBell 53 = .ok (.iload_n 1, 1) := by decide +kernel
theorem dX5_ringBell_54 : decode cX5_ringBell 54 = .ok (.if_icmp .ne 7, 3) := by decide +kernel
theorem dX5_ringBell_57 : decode cX5_ringBell 57 = .ok (.iconst 1, 1) := by decide +kernel
theorem dX5_ringBell_58 : decode cX5_ringBell 58 = .ok (.goto 4, 3) := by decide +kernel
theorem dX5_ringBell_61 : decode cX5_ringBell 61 = .ok (.iconst 0, 1) := by decide +kernel
theorem dX5_ringBell_62 : decode cX5_ringBell 62 = .ok (.iadd, 1) := by decide +kernel
theorem dX5_ringBell_63 : decode cX5_ringBell 63 = .ok (.istore_n 2, 1) := by decide +kernel
theorem dX5_ringBell_64 : decode cX5_ringBell 64 = .ok (.iinc 3 1, 3) := by decide +kernel
theorem dX5_ringBell_67 : decode cX5_ringBell 67 = .ok (.goto (-49), 3) := by decide +kernel
theorem dX5_ringBell_70 : decode cX5_ringBell 70 = .ok (.iload_n 2, 1) := by decide +kernel
theorem dX5_ringBell_71 : decode cX5_ringBell 71 = .ok (.ireturn, 1) := by decide +kernel
theorem dX5_tieCamel_0 : decode cX5_tieCamel 0 = .ok (.aload_n 0, 1) := by decide +kernel
theorem dX5_tieCamel_1 : decode cX5_tieCamel 1 = .ok (.getfield 10, 3) := by decide +kernel
theorem dX5_tieCamel_4 : decode cX5_tieCamel 4 = .ok (.getfield 137, 3) := by decide +kernel
theorem dX5_tieCamel_7 : decode cX5_tieCamel 7 = .ok (.iload_n 1, 1) := by decide +kernel
theorem dX5_tieCamel_8 : decode cX5_tieCamel 8 = .ok (.invokevirtual 362, 3) := by decide +kernel
theorem dX5_tieCamel_11 : decode cX5_tieCamel 11 = .ok (.ifCond .ne 10, 3) := by decide +kernel
theorem dX5_tieCamel_14 : decode cX5_tieCamel 14 = .ok (.aload_n 0, 1) := by decide +kernel
theorem dX5_tieCamel_15 : decode cX5_tieCamel 15 = .ok (.iconst 3, 1) := by decide +kernel
theorem dX5_tieCamel_16 : decode cX5_tieCamel 16 = .ok (.iload_n 1, 1) := by decide +kernel
theorem dX5_tieCamel_17 : decode cX5_tieCamel 17 = .ok (.invokevirtual 352, 3) := by decide +kernel
theorem dX5_tieCamel_20 : decode cX5_tieCamel 20 = .ok (.ireturn, 1) := by decide +kernel
theorem dX5_tieCamel_21 : decode cX5_tieCamel 21 = .ok (.aload_n 0, 1) := by decide +kernel
theorem dX5_tieCamel_22 : decode cX5_tieCamel 22 = .ok (.getfield 10, 3) := by decide +kernel
theorem dX5_tieCamel_25 : decode cX5_tieCamel 25 = .ok (.iload_n 1, 1) := by decide +kernel
theorem dX5_tieCamel_26 : decode cX5_tieCamel 26 = .ok (.invokevirtual 146, 3) := by decide +kernel
theorem dX5_tieCamel_29 : decode cX5_tieCamel 29 = .ok (.ifCond .eq 21, 3) := by decide +kernel
theorem dX5_tieCamel_32 : decode cX5_tieCamel 32 = .ok (.aload_n 0, 1) := by decide +kernel
theorem dX5_tieCamel_33 : decode cX5_tieCamel 33 = .ok (.bipush 8, 2) := by decide +kernel
theorem dX5_tieCamel_35 : decode cX5_tieCamel 35 = .ok (.aload_n 0, 1) := by decide +kernel
theorem dX5_tieCamel_36 : decode cX5_tieCamel 36 = .ok (.getfield 10, 3) := by decide +kernel
theorem dX5_tieCamel_39 : decode cX5_tieCamel 39 = .ok (.getfield 137, 3) := by decide +kernel
theorem dX5_tieCamel_42 : decode cX5_tieCamel 42 = .ok (.iload_n 1, 1) := by decide +kernel
theorem dX5_tieCamel_43 : decode cX5_tieCamel 43 = .ok (.invokevirtual 120, 3) := by decide +kernel
theorem dX5_tieCamel_46 : decode cX5_tieCamel 46 = .ok (.invokevirtual 352, 3) := by decide +kernel
theorem dX5_tieCamel_49 : decode cX5_tieCamel 49 = .ok (.ireturn, 1) := by decide +kernel
theorem dX5_tieCamel_50 : decode cX5_tieCamel 50 = .ok (.aload_n 0, 1) := by decide +kernel
theorem dX5_tieCamel_51 : decode cX5_tieCamel 51 = .ok (.getfield 10, 3) := by decide +kernel
theorem dX5_tieCamel_54 : decode cX5_tieCamel 54 = .ok (.getfield 143, 3) := by decide +kernel
theorem dX5_tieCamel_57 : decode cX5_tieCamel 57 = .ok (.iload_n 1, 1) := by decide +kernel
theorem dX5_tieCamel_58 : decode cX5_tieCamel 58 = .ok (.invokevirtual 120, 3) := by decide +kernel
theorem dX5_tieCamel_61 : decode cX5_tieCamel 61 = .ok (.iconst 1, 1) := by decide +kernel
theorem dX5_tieCamel_62 : decode cX5_tieCamel 62 = .ok (.if_icmp .ne 11, 3) := by decide +kernel
theorem dX5_tieCamel_65 : decode cX5_tieCamel 65 = .ok (.aload_n 0, 1) := by decide +kernel
theorem dX5_tieCamel_66 : decode cX5_tieCamel 66 = .ok (.bipush 7, 2) := by decide +kernel
theorem dX5_tieCamel_68 : decode cX5_tieCamel 68 = .ok (.iload_n 1, 1) := by decide +kernel
theorem dX5_tieCamel_69 : decode cX5_tieCamel 69 = .ok (.invokevirtual 352, 3) := by decide +kernel
theorem dX5_tieCamel_72 : decode cX5_tieCamel 72 = .ok (.ireturn, 1) := by decide +kernel
theorem dX5_tieCamel_73 : decode cX5_tieCamel 73 = .ok (.aload_n 0, 1) := by decide +kernel
theorem dX5_tieCamel_74 : decode cX5_tieCamel 74 = .ok (.getfield 10, 3) := by decide +kernel
theorem dX5_tieCamel_77 : decode cX5_tieCamel 77 = .ok (.aload_n 0, 1) := by decide +kernel
theorem dX5_tieCamel_78 : decode cX5_tieCamel 78 = .ok (.getfield 10, 3) := by decide +kernel
theorem dX5_tieCamel_81 : decode cX5_tieCamel 81 = .ok (.getfield 137, 3) := by decide +kernel
theorem dX5_tieCamel_84 : decode cX5_tieCamel 84 = .ok (.iload_n 1, 1) := by decide +kernel
theorem dX5_tieCamel_85 : decode cX5_tieCamel 85 = .ok (.invokevirtual 120, 3) := by decide +kernel
theorem dX5_tieCamel_88 : decode cX5_tieCamel 88 = .ok (.invokevirtual 378, 3) := by decide +kernel
theorem dX5_tieCamel_91 : decode cX5_tieCamel 91 = .ok (.istore_n 2, 1) := by decide +kernel
theorem dX5_tieCamel_92 : decode cX5_tieCamel 92 = .ok (.iload_n 2, 1) := by decide +kernel
theorem dX5_tieCamel_93 : decode cX5_tieCamel 93 = .ok (.iconst (-1), 1) := by decide +kernel
theorem dX5_tieCamel_94 : decode cX5_tieCamel 94 = .ok (.if_icmp .eq 8, 3) := by decide +kernel
theorem dX5_tieCamel_97 : decode cX5_tieCamel 97 = .ok (.iload_n 2, 1) := by decide +kernel
theorem dX5_tieCamel_98 : decode cX5_tieCamel 98 = .ok (.iconst 5, 1) := by decide +kernel
theorem dX5_tieCamel_99 : decode cX5_tieCamel 99 = .ok (.if_icmp .le 20, 3) := by decide +kernel
theorem dX5_tieCamel_102 : decode cX5_tieCamel 102 = .ok (.aload_n 0, 1) := by decide +kernel
theorem dX5_tieCamel_103 : decode cX5_tieCamel 103 = .ok (.bipush 11, 2) := by decide +kernel
theorem dX5_tieCamel_105 : decode cX5_tieCamel 105 = .ok (.iload_n 2, 1) := by decide +kernel
theorem dX5_tieCamel_106 : decode cX5_tieCamel 106 = .ok (.iconst (-1), 1) := by decide +kernel
theorem dX5_tieCamel_107 : decode cX5_tieCamel 107 = .ok (.if_icmp .ne 7, 3) := by decide +kernel
theorem dX5_tieCamel_110 : decode cX5_tieCamel 110 = .ok (.iconst 0, 1) := by decide +kernel
theorem dX5_tieCamel_111 : decode cX5_tieCamel 111 = .ok (.goto 4, 3) := by decide +kernel
theorem dX5_tieCamel_114 : decode cX5_tieCamel 114 = .ok (.iload_n 2, 1) := by decide +kernel
theorem dX5_tieCamel_115 : decode cX5_tieCamel 115 = .ok (.invokevirtual 352, 3) := by decide +kernel
theorem dX5_tieCamel_118 : decode cX5_tieCamel 118 = .ok (.ireturn, 1) := by decide +kernel
theorem dX5_tieCamel_119 : decode cX5_tieCamel 119 = .ok (.aload_n 0, 1) := by decide +kernel
theorem dX5_tieCamel_120 : decode cX5_tieCamel 120 = .ok (.getfield 10, 3) := by decide +kernel
theorem dX5_tieCamel_123 : decode cX5_tieCamel 123 = .ok (.getfield 143, 3) := by decide +kernel
theorem dX5_tieCamel_126 : decode cX5_tieCamel 126 = .ok (.iload_n 1, 1) := by decide +kernel
theorem dX5_tieCamel_127 : decode cX5_tieCamel 127 = .ok (.iconst 1, 1) := by decide +kernel
theorem dX5_tieCamel_128 : decode cX5_tieCamel 128 = .ok (.invokevirtual 381, 3) := by decide +kernel
theorem dX5_tieCamel_131 : decode cX5_tieCamel 131 = .ok (.aload_n 0, 1) := by decide +kernel
theorem dX5_tieCamel_132 : decode cX5_tieCamel 132 = .ok (.getfield 10, 3) := by decide +kernel
theorem dX5_tieCamel_135 : decode cX5_tieCamel 135 = .ok (.getfield 143, 3) := by decide +kernel
theorem dX5_tieCamel_138 : decode cX5_tieCamel 138 = .ok (.invokevirtual 303, 3) := by decide +kernel
theorem dX5_tieCamel_141 : decode cX5_tieCamel 141 = .ok (.ireturn, 1) := by decide +kernel
theorem dX5_loosenCamel_0 : decode cX5_loosenCamel 0 = .ok (.aload_n 0, 1) := by decide +kernel
theorem dX5_loosenCamel_1 : decode cX5_loosenCamel 1 = .ok (.getfield 10, 3) := by decide +kernel
theorem dX5_loosenCamel_4 : decode cX5_loosenCamel 4 = .ok (.getfield 137, 3) := by decide +kernel
theorem dX5_loosenCamel_7 : decode cX5_loosenCamel 7 = .ok (.iload_n 1, 1) := by decide +kernel
theorem dX5_loosenCamel_8 : decode cX5_loosenCamel 8 = .ok (.invokevirtual 362, 3) := by decide +kernel
theorem dX5_loosenCamel_11 : decode cX5_loosenCamel 11 = .ok (.ifCond .ne 10, 3) := by decide +kernel
theorem dX5_loosenCamel_14 : decode cX5_loosenCamel 14 = .ok (.aload_n 0, 1) := by decide +kernel
theorem dX5_loosenCamel_15 : decode cX5_loosenCamel 15 = .ok (.iconst 3, 1) := by decide +kernel
theorem dX5_loosenCamel_16 : decode cX5_loosenCamel 16 = .ok (.iload_n 1, 1) := by decide +kernel
theorem dX5_loosenCamel_17 : decode cX5_loosenCamel 17 = .ok (.invokevirtual 352, 3) := by decide +kernel
theorem dX5_loosenCamel_20 : decode cX5_loosenCamel 20 = .ok (.ireturn, 1) := by decide +kernel
theorem dX5_loosenCamel_21 : decode cX5_loosenCamel 21 = .ok (.aload_n 0, 1) := by decide +kernel
theorem dX5_loosenCamel_22 : decode cX5_loosenCamel 22 = .ok (.getfield 10, 3) := by decide +kernel
theorem dX5_loosenCamel_25 : decode cX5_loosenCamel 25 = .ok (.getfield 143, 3) := by decide +kernel
theorem dX5_loosenCamel_28 : decode cX5_loosenCamel 28 = .ok (.iload_n 1, 1) := by decide +kernel
theorem dX5_loosenCamel_29 : decode cX5_loosenCamel 29 = .ok (.invokevirtual 120, 3) := by decide +kernel
theorem dX5_loosenCamel_32 : decode cX5_loosenCamel 32 = .ok (.ifCond .ne 11, 3) := by decide +kernel
theorem dX5_loosenCamel_35 : decode cX5_loosenCamel 35 = .ok (.aload_n 0, 1) := by decide +kernel
theorem dX5_loosenCamel_36 : decode cX5_loosenCamel 36 = .ok (.bipush 7, 2) := by decide +kernel
theorem dX5_loosenCamel_38 : decode cX5_loosenCamel 38 = .ok (.iload_n 1, 1) := by decide +kernel
theorem dX5_loosenCamel_39 : decode cX5_loosenCamel 39 = .ok (.invokevirtual 352, 3) := by decide +kernel
theorem dX5_loosenCamel_42 : decode cX5_loosenCamel 42 = .ok (.ireturn, 1) := by decide +kernel
theorem dX5_loosenCamel_43 : decode cX5_loosenCamel 43 = .ok (.aload_n 0, 1) := by decide +kernel
theorem dX5_loosenCamel_44 : decode cX5_loosenCamel 44 = .ok (.getfield 10, 3) := by decide +kernel
theorem dX5_loosenCamel_47 : decode cX5_loosenCamel 47 = .ok (.getfield 143, 3) := by decide +kernel
theorem dX5_loosenCamel_50 : decode cX5_loosenCamel 50 = .ok (.iload_n 1, 1) := by decide +kernel
theorem dX5_loosenCamel_51 : decode cX5_loosenCamel 51 = .ok (.iconst 0, 1) := by decide +kernel
theorem dX5_loosenCamel_52 : decode cX5_loosenCamel 52 = .ok (.invokevirtual 381, 3) := by decide +kernel
theorem dX5_loosenCamel_55 : decode cX5_loosenCamel 55 = .ok (.aload_n 0, 1) := by decide +kernel
theorem dX5_loosenCamel_56 : decode cX5_loosenCamel 56 = .ok (.getfield 10, 3) := by decide +kernel
theorem dX5_loosenCamel_59 : decode cX5_loosenCamel 59 = .ok (.getfield 143, 3) := by decide +kernel
theorem dX5_loosenCamel_62 : decode cX5_loosenCamel 62 = .ok (.invokevirtual 303, 3) := by decide +kernel
theorem dX5_loosenCamel_65 : decode cX5_loosenCamel 65 = .ok (.ireturn, 1) := by decide +kernel
theorem dX5_waterCamel_0 : decode cX5_waterCamel 0 = .ok (.aload_n 0, 1) := by decide +kernel
theorem dX5_waterCamel_1 : decode cX5_waterCamel 1 = .ok (.getfield 10, 3) := by decide +kernel
theorem dX5_waterCamel_4 : decode cX5_waterCamel 4 = .ok (.getfield 137, 3) := by decide +kernel
theorem dX5_waterCamel_7 : decode cX5_waterCamel 7 = .ok (.iload_n 1, 1) := by decide +kernel
theorem dX5_waterCamel_8 : decode cX5_waterCamel 8 = .ok (.invokevirtual 362, 3) := by decide +kernel
theorem dX5_waterCamel_11 : decode cX5_waterCamel 11 = .ok (.ifCond .ne 10, 3) := by decide +kernel
theorem dX5_waterCamel_14 : decode cX5_waterCamel 14 = .ok (.aload_n 0, 1) := by decide +kernel
theorem dX5_waterCamel_15 : decode cX5_waterCamel 15 = .ok (.iconst 3, 1) := by decide +kernel
theorem dX5_waterCamel_16 : decode cX5_waterCamel 16 = .ok (.iload_n 1, 1) := by decide +kernel
theorem dX5_waterCamel_17 : decode cX5_waterCamel 17 = .ok (.invokevirtual 352, 3) := by decide +kernel
theorem dX5_waterCamel_20 : decode cX5_waterCamel 20 = .ok (.ireturn, 1) := by decide +kernel
theorem dX5_waterCamel_21 : decode cX5_waterCamel 21 = .ok (.aload_n 0, 1) := by decide +kernel
theorem dX5_waterCamel_22 : decode cX5_waterCamel 22 = .ok (.getfield 10, 3) := by decide +kernel
theorem dX5_waterCamel_25 : decode cX5_waterCamel 25 = .ok (.iload_n 1, 1) := by decide +kernel
theorem dX5_waterCamel_26 : decode cX5_waterCamel 26 = .ok (.invokevirtual 146, 3) := by decide +kernel
theorem dX5_waterCamel_29 : decode cX5_waterCamel 29 = .ok (.ifCond .eq 21, 3) := by decide +kernel
theorem dX5_waterCamel_32 : decode cX5_waterCamel 32 = .ok (.aload_n 0, 1) := by decide +kernel
theorem dX5_waterCamel_33 : decode cX5_waterCamel 33 = .ok (.bipush 8, 2) := by decide +kernel
theorem dX5_waterCamel_35 : decode cX5_waterCamel 35 = .ok (.aload_n 0, 1) := by decide +kernel
theorem dX5_waterCamel_36 : decode cX5_waterCamel 36 = .ok (.getfield 10, 3) := by decide +kernel
theorem dX5_waterCamel_39 : decode cX5_waterCamel 39 = .ok (.getfield 137, 3) := by decide +kernel
theorem dX5_waterCamel_42 : decode cX5_waterCamel 42 = .ok (.iload_n 1, 1) := by decide +kernel
theorem dX5_waterCamel_43 : decode cX5_waterCamel 43 = .ok (.invokevirtual 120, 3) := by decide +kernel
theorem dX5_waterCamel_46 : decode cX5_waterCamel 46 = .ok (.invokevirtual 352, 3) := by decide +kernel
theorem dX5_waterCamel_49 : decode cX5_waterCamel 49 = .ok (.ireturn, 1) := by decide +kernel
theorem dX5_waterCamel_50 : decode cX5_waterCamel 50 = .ok (.aload_n 0, 1) := by decide +kernel
theorem dX5_waterCamel_51 : decode cX5_waterCamel 51 = .ok (.getfield 10, 3) := by decide +kernel
theorem dX5_waterCamel_54 : decode cX5_waterCamel 54 = .ok (.getfield 140, 3) := by decide +kernel
theorem dX5_waterCamel_57 : decode cX5_waterCamel 57 = .ok (.iload_n 1, 1) := by decide +kernel
theorem dX5_waterCamel_58 : decode cX5_waterCamel 58 = .ok (.invokevirtual 120, 3) := by decide +kernel
theorem dX5_waterCamel_61 : decode cX5_waterCamel 61 = .ok (.istore_n 2, 1) := by decide +kernel
theorem dX5_waterCamel_62 : decode cX5_waterCamel 62 = .ok (.iload_n 2, 1) := by decide +kernel
theorem dX5_waterCamel_63 : decode cX5_waterCamel 63 = .ok (.ifCond .ne 11, 3) := by decide +kernel
theorem dX5_waterCamel_66 : decode cX5_waterCamel 66 = .ok (.aload_n 0, 1) := by decide +kernel
theorem dX5_waterCamel_67 : decode cX5_waterCamel 67 = .ok (.bipush 10, 2) := by decide +kernel
theorem dX5_waterCamel_69 : decode cX5_waterCamel 69 = .ok (.iload_n 1, 1) := by decide +kernel
theorem dX5_waterCamel_70 : decode cX5_waterCamel 70 = .ok (.invokevirtual 352, 3) := by decide +kernel
theorem dX5_waterCamel_73 : decode cX5_waterCamel 73 = .ok (.ireturn, 1) := by decide +kernel
theorem dX5_waterCamel_74 : decode cX5_waterCamel 74 = .ok (.iload_n 2, 1) := by decide +kernel
theorem dX5_waterCamel_75 : decode cX5_waterCamel 75 = .ok (.iconst 1, 1) := by decide +kernel
theorem dX5_waterCamel_76 : decode cX5_waterCamel 76 = .ok (.iadd, 1) := by decide +kernel
theorem dX5_waterCamel_77 : decode cX5_waterCamel 77 = .ok (.iconst 2, 1) := by decide +kernel
theorem dX5_waterCamel_78 : decode cX5_waterCamel 78 = .ok (.idiv, 1) := by decide +kernel
theorem dX5_waterCamel_79 : decode cX5_waterCamel 79 = .ok (.istore_n 3, 1) := by decide +kernel
theorem dX5_waterCamel_80 : decode cX5_waterCamel 80 = .ok (.iload_n 3, 1) := by decide +kernel
theorem dX5_waterCamel_81 : decode cX5_waterCamel 81 = .ok (.aload_n 0, 1) := by decide +kernel
theorem dX5_waterCamel_82 : decode cX5_waterCamel 82 = .ok (.getfield 10, 3) := by decide +kernel
theorem dX5_waterCamel_85 : decode cX5_waterCamel 85 = .ok (.getfield 321, 3) := by decide +kernel
theorem dX5_waterCamel_88 : decode cX5_waterCamel 88 = .ok (.if_icmp .le 19, 3) := by decide +kernel
theorem dX5_waterCamel_91 : decode cX5_waterCamel 91 = .ok (.aload_n 0, 1) := by decide +kernel
theorem dX5_waterCamel_92 : decode cX5_waterCamel 92 = .ok (.bipush 9, 2) := by decide +kernel
theorem dX5_waterCamel_94 : decode cX5_waterCamel 94 = .ok (.iload_n 3, 1) := by decide +kernel
theorem dX5_waterCamel_95 : decode cX5_waterCamel 95 = .ok (.aload_n 0, 1) := by decide +kernel
theorem dX5_waterCamel_96 : decode cX5_waterCamel 96 = .ok (.getfield 10, 3) := by decide +kernel
theorem dX5_waterCamel_99 : decode cX5_waterCamel 99 = .ok (.getfield 321, 3) := by decide +kernel
theorem dX5_waterCamel_102 : decode cX5_waterCamel 102 = .ok (.isub, 1) := by decide +kernel
theorem dX5_waterCamel_103 : decode cX5_waterCamel 103 = .ok (.invokevirtual 352, 3) := by decide +kernel
theorem dX5_waterCamel_106 : decode cX5_waterCamel 106 = .ok (.ireturn, 1) := by decide +kernel
theorem dX5_waterCamel_107 : decode cX5_waterCamel 107 = .ok (.aload_n 0, 1) := by decide +kernel
theorem dX5_waterCamel_108 : decode cX5_waterCamel 108 = .ok (.getfield 10, 3) := by decide +kernel
theorem dX5_waterCamel_111 : decode cX5_waterCamel 111 = .ok (.dup, 1) := by decide +kernel
theorem dX5_waterCamel_112 : decode cX5_waterCamel 112 = .ok (.getfield 321, 3) := by decide +kernel
theorem dX5_waterCamel_115 : decode cX5_waterCamel 115 = .ok (.iload_n 3, 1) := by decide +kernel
theorem dX5_waterCamel_116 : decode cX5_waterCamel 116 = .ok (.isub, 1) := by decide +kernel
theorem dX5_waterCamel_117 : decode cX5_waterCamel 117 = .ok (.putfield 321, 3) := by decide +kernel
theorem dX5_waterCamel_120 : decode cX5_waterCamel 120 = .ok (.aload_n 0, 1) := by decide +kernel
theorem dX5_waterCamel_121 : decode cX5_waterCamel 121 = .ok (.getfield 10, 3) := by decide +kernel
theorem dX5_waterCamel_124 : decode cX5_waterCamel 124 = .ok (.getfield 140, 3) := by decide +kernel
theorem dX5_waterCamel_127 : decode cX5_waterCamel 127 = .ok (.iload_n 1, 1) := by decide +kernel
theorem dX5_waterCamel_128 : decode cX5_waterCamel 128 = .ok (.iconst 0, 1) := by decide +kernel
theorem dX5_waterCamel_129 : decode cX5_waterCamel 129 = .ok (.invokevirtual 381, 3) := by decide +kernel
theorem dX5_waterCamel_132 : decode cX5_waterCamel 132 = .ok (.aload_n 0, 1) := by decide +kernel
theorem dX5_waterCamel_133 : decode cX5_waterCamel 133 = .ok (.getfield 10, 3) := by decide +kernel
theorem dX5_waterCamel_136 : decode cX5_waterCamel 136 = .ok (.getfield 150, 3) := by decide +kernel
theorem dX5_waterCamel_139 : decode cX5_waterCamel 139 = .ok (.iload_n 1, 1) := by decide +kernel
theorem dX5_waterCamel_140 : decode cX5_waterCamel 140 = .ok (.aload_n 0, 1) := by decide +kernel
theorem dX5_waterCamel_141 : decode cX5_waterCamel 141 = .ok (.getfield 10, 3) := by decide +kernel
theorem dX5_waterCamel_144 : decode cX5_waterCamel 144 = .ok (.getfield 150, 3) := by decide +kernel
theorem dX5_waterCamel_147 : decode cX5_waterCamel 147 = .ok (.iload_n 1, 1) := by decide +kernel
theorem dX5_waterCamel_148 : decode cX5_waterCamel 148 = .ok (.invokevirtual 120, 3) := by decide +kernel
theorem dX5_waterCamel_151 : decode cX5_waterCamel 151 = .ok (.iload_n 3, 1) := by decide +kernel
theorem dX5_waterCamel_152 : decode cX5_waterCamel 152 = .ok (.iadd, 1) := by decide +kernel
theorem dX5_waterCamel_153 : decode cX5_waterCamel 153 = .ok (.invokevirtual 381, 3) := by decide +kernel
theorem dX5_waterCamel_156 : decode cX5_waterCamel 156 = .ok (.aload_n 0, 1) := by decide +kernel
theorem dX5_waterCamel_157 : decode cX5_waterCamel 157 = .ok (.getfield 10, 3) := by decide +kernel
theorem dX5_waterCamel_160 : decode cX5_waterCamel 160 = .ok (.getfield 321, 3) := by decide +kernel
theorem dX5_waterCamel_163 : decode cX5_waterCamel 163 = .ok (.ireturn, 1) := by decide +kernel
theorem dX5_bringWater_0 : decode cX5_bringWater 0 = .ok (.iload_n 1, 1) := by decide +kernel
theorem dX5_bringWater_1 : decode cX5_bringWater 1 = .ok (.iconst 1, 1) := by decide +kernel
theorem dX5_bringWater_2 : decode cX5_bringWater 2 = .ok (.if_icmp .lt 9, 3) := by decide +kernel
theorem dX5_bringWater_5 : decode cX5_bringWater 5 = .ok (.iload_n 1, 1) := by decide +kernel
theorem dX5_bringWater_6 : decode cX5_bringWater 6 = .ok (.bipush 100, 2) := by decide +kernel
theorem dX5_bringWater_8 : decode cX5_bringWater 8 = .ok (.if_icmp .le 10, 3) := by decide +kernel
theorem dX5_bringWater_11 : decode cX5_bringWater 11 = .ok (.aload_n 0, 1) := by decide +kernel
theorem dX5_bringWater_12 : decode cX5_bringWater 12 = .ok (.iconst 1, 1) := by decide +kernel
theorem dX5_bringWater_13 : decode cX5_bringWater 13 = .ok (.iconst 0, 1) := by decide +kernel
theorem dX5_bringWater_14 : decode cX5_bringWater 14 = .ok (.invokevirtual 352, 3) := by decide +kernel
theorem dX5_bringWater_17 : decode cX5_bringWater 17 = .ok (.ireturn, 1) := by decide +kernel
theorem dX5_bringWater_18 : decode cX5_bringWater 18 = .ok (.aload_n 0, 1) := by decide +kernel
theorem dX5_bringWater_19 : decode cX5_bringWater 19 = .ok (.getfield 10, 3) := by decide +kernel
theorem dX5_bringWater_22 : decode cX5_bringWater 22 = .ok (.getfield 321, 3) := by decide +kernel
theorem dX5_bringWater_25 : decode cX5_bringWater 25 = .ok (.iload_n 1, 1) := by decide +kernel
theorem dX5_bringWater_26 : decode cX5_bringWater 26 = .ok (.iadd, 1) := by decide +kernel
theorem dX5_bringWater_27 : decode cX5_bringWater 27 = .ok (.sipush 200, 3) := by decide +kernel
theorem dX5_bringWater_30 : decode cX5_bringWater 30 = .ok (.if_icmp .le 12, 3) := by decide +kernel
theorem dX5_bringWater_33 : decode cX5_bringWater 33 = .ok (.aload_n 0, 1) := by decide +kernel
theorem dX5_bringWater_34 : decode cX5_bringWater 34 = .ok (.iconst 2, 1) := by decide +kernel
theorem dX5_bringWater_35 : decode cX5_bringWater 35 = .ok (.sipush 200, 3) := by decide +kernel
theorem dX5_bringWater_38 : decode cX5_bringWater 38 = .ok (.invokevirtual 352, 3) := by decide +kernel
theorem dX5_bringWater_41 : decode cX5_bringWater 41 = .ok (.ireturn, 1) := by decide +kernel
theorem dX5_bringWater_42 : decode cX5_bringWater 42 = .ok (.aload_n 0, 1) := by decide +kernel
theorem dX5_bringWater_43 : decode cX5_bringWater 43 = .ok (.getfield 10, 3) := by decide +kernel
theorem dX5_bringWater_46 : decode cX5_bringWater 46 = .ok (.dup, 1) := by decide +kernel
theorem dX5_bringWater_47 : decode cX5_bringWater 47 = .ok (.getfield 321, 3) := by decide +kernel
theorem dX5_bringWater_50 : decode cX5_bringWater 50 = .ok (.iload_n 1, 1) := by decide +kernel
theorem dX5_bringWater_51 : decode cX5_bringWater 51 = .ok (.iadd, 1) := by decide +kernel
theorem dX5_bringWater_52 : decode cX5_bringWater 52 = .ok (.putfield 321, 3) := by decide +kernel
theorem dX5_bringWater_55 : decode cX5_bringWater 55 = .ok (.aload_n 0, 1) := by decide +kernel
theorem dX5_bringWater_56 : decode cX5_bringWater 56 = .ok (.getfield 10, 3) := by decide +kernel
theorem dX5_bringWater_59 : decode cX5_bringWater 59 = .ok (.getfield 321, 3) := by decide +kernel
theorem dX5_bringWater_62 : decode cX5_bringWater 62 = .ok (.ireturn, 1) := by decide +kernel
theorem dX5_passHours_0 : decode cX5_passHours 0 = .ok (.iload_n 1, 1) := by decide +kernel
theorem dX5_passHours_1 : decode cX5_passHours 1 = .ok (.iconst 1, 1) := by decide +kernel
theorem dX5_passHours_2 : decode cX5_passHours 2 = .ok (.if_icmp .lt 9, 3) := by decide +kernel
theorem dX5_passHours_5 : decode cX5_passHours 5 = .ok (.iload_n 1, 1) := by decide +kernel
theorem dX5_passHours_6 : decode cX5_passHours 6 = .ok (.bipush 48, 2) := by decide +kernel
theorem dX5_passHours_8 : decode cX5_passHours 8 = .ok (.if_icmp .le 10, 3) := by decide +kernel
theorem dX5_passHours_11 : decode cX5_passHours 11 = .ok (.aload_n 0, 1) := by decide +kernel
theorem dX5_passHours_12 : decode cX5_passHours 12 = .ok (.iconst 1, 1) := by decide +kernel
theorem dX5_passHours_13 : decode cX5_passHours 13 = .ok (.iconst 0, 1) := by decide +kernel
theorem dX5_passHours_14 : decode cX5_passHours 14 = .ok (.invokevirtual 352, 3) := by decide +kernel
theorem dX5_passHours_17 : decode cX5_passHours 17 = .ok (.ireturn, 1) := by decide +kernel
theorem dX5_passHours_18 : decode cX5_passHours 18 = .ok (.aload_n 0, 1) := by decide +kernel
theorem dX5_passHours_19 : decode cX5_passHours 19 = .ok (.getfield 10, 3) := by decide +kernel
theorem dX5_passHours_22 : decode cX5_passHours 22 = .ok (.invokevirtual 318, 3) := by decide +kernel
theorem dX5_passHours_25 : decode cX5_passHours 25 = .ok (.istore_n 2, 1) := by decide +kernel
theorem dX5_passHours_26 : decode cX5_passHours 26 = .ok (.iconst 0, 1) := by decide +kernel
theorem dX5_passHours_27 : decode cX5_passHours 27 = .ok (.istore_n 3, 1) := by decide +kernel
theorem dX5_passHours_28 : decode cX5_passHours 28 = .ok (.iload_n 3, 1) := by decide +kernel
theorem dX5_passHours_29 : decode cX5_passHours 29 = .ok (.iload_n 1, 1) := by decide +kernel
theorem dX5_passHours_30 : decode cX5_passHours 30 = .ok (.if_icmp .ge 16, 3) := by decide +kernel
theorem dX5_passHours_33 : decode cX5_passHours 33 = .ok (.aload_n 0, 1) := by decide +kernel
theorem dX5_passHours_34 : decode cX5_passHours 34 = .ok (.getfield 10, 3) := by decide +kernel
theorem dX5_passHours_37 : decode cX5_passHours 37 = .ok (.invokevirtual 384, 3) := by decide +kernel
theorem dX5_passHours_40 : decode cX5_passHours 40 = .ok (.iinc 3 1, 3) := by decide +kernel
theorem dX5_passHours_43 : decode cX5_passHours 43 = .ok (.goto (-15), 3) := by decide +kernel
theorem dX5_passHours_46 : decode cX5_passHours 46 = .ok (.aload_n 0, 1) := by decide +kernel
theorem dX5_passHours_47 : decode cX5_passHours 47 = .ok (.getfield 10, 3) := by decide +kernel
theorem dX5_passHours_50 : decode cX5_passHours 50 = .ok (.invokevirtual 318, 3) := by decide +kernel
theorem dX5_passHours_53 : decode cX5_passHours 53 = .ok (.iload_n 2, 1) := by decide +kernel
theorem dX5_passHours_54 : decode cX5_passHours 54 = .ok (.isub, 1) := by decide +kernel
theorem dX5_passHours_55 : decode cX5_passHours 55 = .ok (.ireturn, 1) := by decide +kernel
theorem dX5_isPlace_0 : decode cX5_isPlace 0 = .ok (.iload_n 0, 1) := by decide +kernel
theorem dX5_isPlace_1 : decode cX5_isPlace 1 = .ok (.ifCond .lt 13, 3) := by decide +kernel
theorem dX5_isPlace_4 : decode cX5_isPlace 4 = .ok (.iload_n 0, 1) := by decide +kernel
theorem dX5_isPlace_5 : decode cX5_isPlace 5 = .ok (.bipush 100, 2) := by decide +kernel
theorem dX5_isPlace_7 : decode cX5_isPlace 7 = .ok (.if_icmp .ge 7, 3) := by decide +kernel
theorem dX5_isPlace_10 : decode cX5_isPlace 10 = .ok (.iconst 1, 1) := by decide +kernel
theorem dX5_isPlace_11 : decode cX5_isPlace 11 = .ok (.goto 4, 3) := by decide +kernel
theorem dX5_isPlace_14 : decode cX5_isPlace 14 = .ok (.iconst 0, 1) := by decide +kernel
theorem dX5_isPlace_15 : decode cX5_isPlace 15 = .ok (.ireturn, 1) := by decide +kernel
theorem dX5_nearestPlace_0 : decode cX5_nearestPlace 0 = .ok (.iconst 0, 1) := by decide +kernel
theorem dX5_nearestPlace_1 : decode cX5_nearestPlace 1 = .ok (.bipush 99, 2) := by decide +kernel
theorem dX5_nearestPlace_3 : decode cX5_nearestPlace 3 = .ok (.iload_n 0, 1) := by decide +kernel
theorem dX5_nearestPlace_4 : decode cX5_nearestPlace 4 = .ok (.invokestatic 387, 3) := by decide +kernel
theorem dX5_nearestPlace_7 : decode cX5_nearestPlace 7 = .ok (.invokestatic 390, 3) := by decide +kernel
theorem dX5_nearestPlace_10 : decode cX5_nearestPlace 10 = .ok (.ireturn, 1) := by decide +kernel
theorem dX5_wayTo_0 : decode cX5_wayTo 0 = .ok (.iload_n 0, 1) := by decide +kernel
theorem dX5_wayTo_1 : decode cX5_wayTo 1 = .ok (.iload_n 1, 1) := by decide +kernel
theorem dX5_wayTo_2 : decode cX5_wayTo 2 = .ok (.if_icmp .gt 7, 3) := by decide +kernel
theorem dX5_wayTo_5 : decode cX5_wayTo 5 = .ok (.iconst 1, 1) := by decide +kernel
theorem dX5_wayTo_6 : decode cX5_wayTo 6 = .ok (.goto 4, 3) := by decide +kernel
theorem dX5_wayTo_9 : decode cX5_wayTo 9 = .ok (.iconst (-1), 1) := by decide +kernel
theorem dX5_wayTo_10 : decode cX5_wayTo 10 = .ok (.ireturn, 1) := by decide +kernel
theorem dX5_needStake_0 : decode cX5_needStake 0 = .ok (.aload_n 0, 1) := by decide +kernel
theorem dX5_needStake_1 : decode cX5_needStake 1 = .ok (.getfield 10, 3) := by decide +kernel
theorem dX5_needStake_4 : decode cX5_needStake 4 = .ok (.getfield 116, 3) := by decide +kernel
theorem dX5_needStake_7 : decode cX5_needStake 7 = .ok (.iload_n 1, 1) := by decide +kernel
theorem dX5_needStake_8 : decode cX5_needStake 8 = .ok (.invokevirtual 362, 3) := by decide +kernel
theorem dX5_needStake_11 : decode cX5_needStake 11 = .ok (.ifCond .ne 14, 3) := by decide +kernel
theorem dX5_needStake_14 : decode cX5_needStake 14 = .ok (.new 291, 3) := by decide +kernel
theorem dX5_needStake_17 : decode cX5_needStake 17 = .ok (.dup, 1) := by decide +kernel
theorem dX5_needStake_18 : decode cX5_needStake 18 = .ok (.ldc_w 393, 3) := by decide +kernel
theorem dX5_needStake_21 : decode cX5_needStake 21 = .ok (.invokespecial 295, 3) := by decide +kernel
theorem dX5_needStake_24 : decode cX5_needStake 24 = .ok (.athrow, 1) := by decide +kernel
theorem dX5_needStake_25 : decode cX5_needStake 25 = .ok (.return_, 1) := by decide +kernel
theorem dX5_needPost_0 : decode cX5_needPost 0 = .ok (.aload_n 0, 1) := by decide +kernel
theorem dX5_needPost_1 : decode cX5_needPost 1 = .ok (.getfield 10, 3) := by decide +kernel
theorem dX5_needPost_4 : decode cX5_needPost 4 = .ok (.getfield 131, 3) := by decide +kernel
theorem dX5_needPost_7 : decode cX5_needPost 7 = .ok (.iload_n 1, 1) := by decide +kernel
theorem dX5_needPost_8 : decode cX5_needPost 8 = .ok (.invokevirtual 362, 3) := by decide +kernel
theorem dX5_needPost_11 : decode cX5_needPost 11 = .ok (.ifCond .ne 14, 3) := by decide +kernel
theorem dX5_needPost_14 : decode cX5_needPost 14 = .ok (.new 291, 3) := by decide +kernel
theorem dX5_needPost_17 : decode cX5_needPost 17 = .ok (.dup, 1) := by decide +kernel
theorem dX5_needPost_18 : decode cX5_needPost 18 = .ok (.ldc_w 395, 3) := by decide +kernel
theorem dX5_needPost_21 : decode cX5_needPost 21 = .ok (.invokespecial 295, 3) := by decide +kernel
theorem dX5_needPost_24 : decode cX5_needPost 24 = .ok (.athrow, 1) := by decide +kernel
theorem dX5_needPost_25 : decode cX5_needPost 25 = .ok (.return_, 1) := by decide +kernel
theorem dX5_needSheet_0 : decode cX5_needSheet 0 = .ok (.aload_n 0, 1) := by decide +kernel
theorem dX5_needSheet_1 : decode cX5_needSheet 1 = .ok (.getfield 10, 3) := by decide +kernel
theorem dX5_needSheet_4 : decode cX5_needSheet 4 = .ok (.iload_n 1, 1) := by decide +kernel
theorem dX5_needSheet_5 : decode cX5_needSheet 5 = .ok (.invokevirtual 365, 3) := by decide +kernel
theorem dX5_needSheet_8 : decode cX5_needSheet 8 = .ok (.ifCond .ne 14, 3) := by decide +kernel
theorem dX5_needSheet_11 : decode cX5_needSheet 11 = .ok (.new 291, 3) := by decide +kernel
theorem dX5_needSheet_14 : decode cX5_needSheet 14 = .ok (.dup, 1) := by decide +kernel
theorem dX5_needSheet_15 : decode cX5_needSheet 15 = .ok (.ldc_w 397, 3) := by decide +kernel
theorem dX5_needSheet_18 : decode cX5_needSheet 18 = .ok (.invokespecial 295, 3) := by decide +kernel
theorem dX5_needSheet_21 : decode cX5_needSheet 21 = .ok (.athrow, 1) := by decide +kernel
theorem dX5_needSheet_22 : decode cX5_needSheet 22 = .ok (.return_, 1) := by decide +kernel
theorem dX5_needCamel_0 : decode cX5_needCamel 0 = .ok (.aload_n 0, 1) := by decide +kernel
theorem dX5_needCamel_1 : decode cX5_needCamel 1 = .ok (.getfield 10, 3) := by decide +kernel
theorem dX5_needCamel_4 : decode cX5_needCamel 4 = .ok (.getfield 137, 3) := by decide +kernel
theorem dX5_needCamel_7 : decode cX5_needCamel 7 = .ok (.iload_n 1, 1) := by decide +kernel
theorem dX5_needCamel_8 : decode cX5_needCamel 8 = .ok (.invokevirtual 362, 3) := by decide +kernel
theorem dX5_needCamel_11 : decode cX5_needCamel 11 = .ok (.ifCond .ne 14, 3) := by decide +kernel
theorem dX5_needCamel_14 : decode cX5_needCamel 14 = .ok (.new 291, 3) := by decide +kernel
theorem dX5_needCamel_17 : decode cX5_needCamel 17 = .ok (.dup, 1) := by decide +kernel
theorem dX5_needCamel_18 : decode cX5_needCamel 18 = .ok (.ldc_w 399, 3) := by decide +kernel
theorem dX5_needCamel_21 : decode cX5_needCamel 21 = .ok (.invokespecial 295, 3) := by decide +kernel
theorem dX5_needCamel_24 : decode cX5_needCamel 24 = .ok (.athrow, 1) := by decide +kernel
theorem dX5_needCamel_25 : decode cX5_needCamel 25 = .ok (.return_, 1) := by decide +kernel
end
section
theorem dL_at_0 : decode cL_at 0 = .ok (.iload_n 1, 1) := by decide +kernel
theorem dL_at_1 : decode cL_at 1 = .ok (.aload_n 0, 1) := by decide +kernel
theorem dL_at_2 : decode cL_at 2 = .ok (.arraylength, 1) := by decide +kernel
theorem dL_at_3 : decode cL_at 3 = .ok (.if_icmp .ge 9, 3) := by decide +kernel
theorem dL_at_6 : decode cL_at 6 = .ok (.aload_n 0, 1) := by decide +kernel
theorem dL_at_7 : decode cL_at 7 = .ok (.iload_n 1, 1) := by decide +kernel
theorem dL_at_8 : decode cL_at 8 = .ok (.iaload, 1) := by decide +kernel
theorem dL_at_9 : decode cL_at 9 = .ok (.goto 4, 3) := by decide +kernel
theorem dL_at_12 : decode cL_at 12 = .ok (.iconst 0, 1) := by decide +kernel
theorem dL_at_13 : decode cL_at 13 = .ok (.ireturn, 1) := by decide +kernel
theorem dL_some_0 : decode cL_some 0 = .ok (.iload_n 0, 1) := by decide +kernel
theorem dL_some_1 : decode cL_some 1 = .ok (.iload_n 1, 1) := by decide +kernel
theorem dL_some_2 : decode cL_some 2 = .ok (.irem, 1) := by decide +kernel
theorem dL_some_3 : decode cL_some 3 = .ok (.istore_n 2, 1) := by decide +kernel
theorem dL_some_4 : decode cL_some 4 = .ok (.iload_n 2, 1) := by decide +kernel
theorem dL_some_5 : decode cL_some 5 = .ok (.ifCond .ge 9, 3) := by decide +kernel
theorem dL_some_8 : decode cL_some 8 = .ok (.iload_n 2, 1) := by decide +kernel
theorem dL_some_9 : decode cL_some 9 = .ok (.iload_n 1, 1) := by decide +kernel
theorem dL_some_10 : decode cL_some 10 = .ok (.iadd, 1) := by decide +kernel
theorem dL_some_11 : decode cL_some 11 = .ok (.goto 4, 3) := by decide +kernel
theorem dL_some_14 : decode cL_some 14 = .ok (.iload_n 2, 1) := by decide +kernel
theorem dL_some_15 : decode cL_some 15 = .ok (.ireturn, 1) := by decide +kernel
theorem dL_stake_0 : decode cL_stake 0 = .ok (.aload_n 0, 1) := by decide +kernel
theorem dL_stake_1 : decode cL_stake 1 = .ok (.iload_n 1, 1) := by decide +kernel
theorem dL_stake_2 : decode cL_stake 2 = .ok (.invokevirtual 7, 3) := by decide +kernel
theorem dL_stake_5 : decode cL_stake 5 = .ok (.ireturn, 1) := by decide +kernel
theorem dL_stake_6 : decode cL_stake 6 = .ok (.astore_n 2, 1) := by decide +kernel
theorem dL_stake_7 : decode cL_stake 7 = .ok (.sipush (-1001), 3) := by decide +kernel
theorem dL_stake_10 : decode cL_stake 10 = .ok (.ireturn, 1) := by decide +kernel
theorem dL_post_0 : decode cL_post 0 = .ok (.aload_n 0, 1) := by decide +kernel
theorem dL_post_1 : decode cL_post 1 = .ok (.iload_n 1, 1) := by decide +kernel
theorem dL_post_2 : decode cL_post 2 = .ok (.iload_n 2, 1) := by decide +kernel
theorem dL_post_3 : decode cL_post 3 = .ok (.invokevirtual 15, 3) := by decide +kernel
theorem dL_post_6 : decode cL_post 6 = .ok (.ireturn, 1) := by decide +kernel
theorem dL_post_7 : decode cL_post 7 = .ok (.astore_n 3, 1) := by decide +kernel
theorem dL_post_8 : decode cL_post 8 = .ok (.sipush (-1001), 3) := by decide +kernel
theorem dL_post_11 : decode cL_post 11 = .ok (.ireturn, 1) := by decide +kernel
theorem dL_sheet_0 : decode cL_sheet 0 = .ok (.aload_n 0, 1) := by decide +kernel
theorem dL_sheet_1 : decode cL_sheet 1 = .ok (.invokevirtual 19, 3) := by decide +kernel
theorem dL_sheet_4 : decode cL_sheet 4 = .ok (.ireturn, 1) := by decide +kernel
theorem dL_sheet_5 : decode cL_sheet 5 = .ok (.astore_n 1, 1) := by decide +kernel
theorem dL_sheet_6 : decode cL_sheet 6 = .ok (.sipush (-1001), 3) := by decide +kernel
theorem dL_sheet_9 : decode cL_sheet 9 = .ok (.ireturn, 1) := by decide +kernel
theorem dL_heat_0 : decode cL_heat 0 = .ok (.aload_n 0, 1) := by decide +kernel
theorem dL_heat_1 : decode cL_heat 1 = .ok (.iload_n 1, 1) := by decide +kernel
theorem dL_heat_2 : decode cL_heat 2 = .ok (.invokevirtual 23, 3) := by decide +kernel
theorem dL_heat_5 : decode cL_heat 5 = .ok (.ireturn, 1) := by decide +kernel
theorem dL_heat_6 : decode cL_heat 6 = .ok (.astore_n 2, 1) := by decide +kernel
theorem dL_heat_7 : decode cL_heat 7 = .ok (.sipush (-1001), 3) := by decide +kernel
theorem dL_heat_10 : decode cL_heat 10 = .ok (.ireturn, 1) := by decide +kernel
theorem dL_sight_0 : decode cL_sight 0 = .ok (.aload_n 0, 1) := by decide +kernel
theorem dL_sight_1 : decode cL_sight 1 = .ok (.iload_n 1, 1) := by decide +kernel
theorem dL_sight_2 : decode cL_sight 2 = .ok (.iload_n 2, 1) := by decide +kernel
theorem dL_sight_3 : decode cL_sight 3 = .ok (.iload_n 3, 1) := by decide +kernel
theorem dL_sight_4 : decode cL_sight 4 = .ok (.invokevirtual 26, 3) := by decide +kernel
theorem dL_sight_7 : decode cL_sight 7 = .ok (.ireturn, 1) := by decide +kernel
theorem dL_sight_8 : decode cL_sight 8 = .ok (.astore 4, 2) := by decide +kernel
theorem dL_sight_10 : decode cL_sight 10 = .ok (.sipush (-1001), 3) := by decide +kernel
theorem dL_sight_13 : decode cL_sight 13 = .ok (.ireturn, 1) := by decide +kernel
theorem dL_erase_0 : decode cL_erase 0 = .ok (.aload_n 0, 1) := by decide +kernel
theorem dL_erase_1 : decode cL_erase 1 = .ok (.iload_n 1, 1) := by decide +kernel
theorem dL_erase_2 : decode cL_erase 2 = .ok (.iload_n 2, 1) := by decide +kernel
theorem dL_erase_3 : decode cL_erase 3 = .ok (.invokevirtual 30, 3) := by decide +kernel
theorem dL_erase_6 : decode cL_erase 6 = .ok (.ireturn, 1) := by decide +kernel
theorem dL_erase_7 : decode cL_erase 7 = .ok (.astore_n 3, 1) := by decide +kernel
theorem dL_erase_8 : decode cL_erase 8 = .ok (.sipush (-1001), 3) := by decide +kernel
theorem dL_erase_11 : decode cL_erase 11 = .ok (.ireturn, 1) := by decide +kernel
theorem dL_camel_0 : decode cL_camel 0 = .ok (.aload_n 0, 1) := by decide +kernel
theorem dL_camel_1 : decode cL_camel 1 = .ok (.iload_n 1, 1) := by decide +kernel
theorem dL_camel_2 : decode cL_camel 2 = .ok (.invokevirtual 33, 3) := by decide +kernel
theorem dL_camel_5 : decode cL_camel 5 = .ok (.ireturn, 1) := by decide +kernel
theorem dL_camel_6 : decode cL_camel 6 = .ok (.astore_n 2, 1) := by decide +kernel
theorem dL_camel_7 : decode cL_camel 7 = .ok (.sipush (-1001), 3) := by decide +kernel
theorem dL_camel_10 : decode cL_camel 10 = .ok (.ireturn, 1) := by decide +kernel
theorem dL_bell_0 : decode cL_bell 0 = .ok (.aload_n 0, 1) := by decide +kernel
theorem dL_bell_1 : decode cL_bell 1 = .ok (.iload_n 1, 1) := by decide +kernel
theorem dL_bell_2 : decode cL_bell 2 = .ok (.invokevirtual 36, 3) := by decide +kernel
theorem dL_bell_5 : decode cL_bell 5 = .ok (.ireturn, 1) := by decide +kernel
theorem dL_bell_6 : decode cL_bell 6 = .ok (.astore_n 2, 1) := by decide +kernel
theorem dL_bell_7 : decode cL_bell 7 = .ok (.sipush (-1001), 3) := by decide +kernel
theorem dL_bell_10 : decode cL_bell 10 = .ok (.ireturn, 1) := by decide +kernel
theorem dL_tie_0 : decode cL_tie 0 = .ok (.aload_n 0, 1) := by decide +kernel
theorem dL_tie_1 : decode cL_tie 1 = .ok (.iload_n 1, 1) := by decide +kernel
theorem dL_tie_2 : decode cL_tie 2 = .ok (.invokevirtual 39, 3) := by decide +kernel
theorem dL_tie_5 : decode cL_tie 5 = .ok (.ireturn, 1) := by decide +kernel
theorem dL_tie_6 : decode cL_tie 6 = .ok (.astore_n 2, 1) := by decide +kernel
theorem dL_tie_7 : decode cL_tie 7 = .ok (.sipush (-1001), 3) := by decide +kernel
theorem dL_tie_10 : decode cL_tie 10 = .ok (.ireturn, 1) := by decide +kernel
theorem dL_loose_0 : decode cL_loose 0 = .ok (.aload_n 0, 1) := by decide +kernel
theorem dL_loose_1 : decode cL_loose 1 = .ok (.iload_n 1, 1) := by decide +kernel
theorem dL_loose_2 : decode cL_loose 2 = .ok (.invokevirtual 42, 3) := by decide +kernel
theorem dL_loose_5 : decode cL_loose 5 = .ok (.ireturn, 1) := by decide +kernel
theorem dL_loose_6 : decode cL_loose 6 = .ok (.astore_n 2, 1) := by decide +kernel
theorem dL_loose_7 : decode cL_loose 7 = .ok (.sipush (-1001), 3) := by decide +kernel
theorem dL_loose_10 : decode cL_loose 10 = .ok (.ireturn, 1) := by decide +kernel
theorem dL_drink_0 : decode cL_drink 0 = .ok (.aload_n 0, 1) := by decide +kernel
theorem dL_drink_1 : decode cL_drink 1 = .ok (.iload_n 1, 1) := by decide +kernel
theorem dL_drink_2 : decode cL_drink 2 = .ok (.invokevirtual 45, 3) := by decide +kernel
theorem dL_drink_5 : decode cL_drink 5 = .ok (.ireturn, 1) := by decide +kernel
theorem dL_drink_6 : decode cL_drink 6 = .ok (.astore_n 2, 1) := by decide +kernel
theorem dL_drink_7 : decode cL_drink 7 = .ok (.sipush (-1001), 3) := by decide +kernel
theorem dL_drink_10 : decode cL_drink 10 = .ok (.ireturn, 1) := by decide +kernel
theorem dL_water_0 : decode cL_water 0 = .ok (.aload_n 0, 1) := by decide +kernel
theorem dL_water_1 : decode cL_water 1 = .ok (.iload_n 1, 1) := by decide +kernel
theorem dL_water_2 : decode cL_water 2 = .ok (.invokevirtual 48, 3) := by decide +kernel
theorem dL_water_5 : decode cL_water 5 = .ok (.ireturn, 1) := by decide +kernel
theorem dL_water_6 : decode cL_water 6 = .ok (.astore_n 2, 1) := by decide +kernel
theorem dL_water_7 : decode cL_water 7 = .ok (.sipush (-1001), 3) := by decide +kernel
theorem dL_water_10 : decode cL_water 10 = .ok (.ireturn, 1) := by decide +kernel
theorem dL_hours_0 : decode cL_hours 0 = .ok (.aload_n 0, 1) := by decide +kernel
theorem dL_hours_1 : decode cL_hours 1 = .ok (.iload_n 1, 1) := by decide +kernel
theorem dL_hours_2 : decode cL_hours 2 = .ok (.invokevirtual 51, 3) := by decide +kernel
theorem dL_hours_5 : decode cL_hours 5 = .ok (.ireturn, 1) := by decide +kernel
theorem dL_hours_6 : decode cL_hours 6 = .ok (.astore_n 2, 1) := by decide +kernel
theorem dL_hours_7 : decode cL_hours 7 = .ok (.sipush (-1001), 3) := by decide +kernel
theorem dL_hours_10 : decode cL_hours 10 = .ok (.ireturn, 1) := by decide +kernel
theorem dL_stakeAt_0 : decode cL_stakeAt 0 = .ok (.aload_n 0, 1) := by decide +kernel
theorem dL_stakeAt_1 : decode cL_stakeAt 1 = .ok (.iload_n 1, 1) := by decide +kernel
theorem dL_stakeAt_2 : decode cL_stakeAt 2 = .ok (.invokevirtual 54, 3) := by decide +kernel
theorem dL_stakeAt_5 : decode cL_stakeAt 5 = .ok (.ireturn, 1) := by decide +kernel
theorem dL_stakeAt_6 : decode cL_stakeAt 6 = .ok (.astore_n 2, 1) := by decide +kernel
theorem dL_stakeAt_7 : decode cL_stakeAt 7 = .ok (.sipush (-1001), 3) := by decide +kernel
theorem dL_stakeAt_10 : decode cL_stakeAt 10 = .ok (.ireturn, 1) := by decide +kernel
theorem dL_postOf_0 : decode cL_postOf 0 = .ok (.aload_n 0, 1) := by decide +kernel
theorem dL_postOf_1 : decode cL_postOf 1 = .ok (.iload_n 1, 1) := by decide +kernel
theorem dL_postOf_2 : decode cL_postOf 2 = .ok (.iload_n 2, 1) := by decide +kernel
theorem dL_postOf_3 : decode cL_postOf 3 = .ok (.invokevirtual 59, 3) := by decide +kernel
theorem dL_postOf_6 : decode cL_postOf 6 = .ok (.ireturn, 1) := by decide +kernel
theorem dL_postOf_7 : decode cL_postOf 7 = .ok (.astore_n 3, 1) := by decide +kernel
theorem dL_postOf_8 : decode cL_postOf 8 = .ok (.sipush (-1001), 3) := by decide +kernel
theorem dL_postOf_11 : decode cL_postOf 11 = .ok (.ireturn, 1) := by decide +kernel
theorem dL_camelOf_0 : decode cL_camelOf 0 = .ok (.aload_n 0, 1) := by decide +kernel
theorem dL_camelOf_1 : decode cL_camelOf 1 = .ok (.iload_n 1, 1) := by decide +kernel
theorem dL_camelOf_2 : decode cL_camelOf 2 = .ok (.iload_n 2, 1) := by decide +kernel
theorem dL_camelOf_3 : decode cL_camelOf 3 = .ok (.invokevirtual 63, 3) := by decide +kernel
theorem dL_camelOf_6 : decode cL_camelOf 6 = .ok (.ireturn, 1) := by decide +kernel
theorem dL_camelOf_7 : decode cL_camelOf 7 = .ok (.astore_n 3, 1) := by decide +kernel
theorem dL_camelOf_8 : decode cL_camelOf 8 = .ok (.sipush (-1001), 3) := by decide +kernel
theorem dL_camelOf_11 : decode cL_camelOf 11 = .ok (.ireturn, 1) := by decide +kernel
theorem dL_camelOf_12 : decode cL_camelOf 12 = .ok (.astore_n 3, 1) := by decide +kernel
theorem dL_camelOf_13 : decode cL_camelOf 13 = .ok (.sipush (-1002), 3) := by decide +kernel
theorem dL_camelOf_16 : decode cL_camelOf 16 = .ok (.ireturn, 1) := by decide +kernel
theorem dL_drawnAt_0 : decode cL_drawnAt 0 = .ok (.aload_n 0, 1) := by decide +kernel
theorem dL_drawnAt_1 : decode cL_drawnAt 1 = .ok (.iload_n 1, 1) := by decide +kernel
theorem dL_drawnAt_2 : decode cL_drawnAt 2 = .ok (.iload_n 2, 1) := by decide +kernel
theorem dL_drawnAt_3 : decode cL_drawnAt 3 = .ok (.invokevirtual 68, 3) := by decide +kernel
theorem dL_drawnAt_6 : decode cL_drawnAt 6 = .ok (.ireturn, 1) := by decide +kernel
theorem dL_drawnAt_7 : decode cL_drawnAt 7 = .ok (.astore_n 3, 1) := by decide +kernel
theorem dL_drawnAt_8 : decode cL_drawnAt 8 = .ok (.sipush (-1001), 3) := by decide +kernel
theorem dL_drawnAt_11 : decode cL_drawnAt 11 = .ok (.ireturn, 1) := by decide +kernel
theorem dL_drawnAt_12 : decode cL_drawnAt 12 = .ok (.astore_n 3, 1) := by decide +kernel
theorem dL_drawnAt_13 : decode cL_drawnAt 13 = .ok (.sipush (-1002), 3) := by decide +kernel
theorem dL_drawnAt_16 : decode cL_drawnAt 16 = .ok (.ireturn, 1) := by decide +kernel
theorem dL_wrongBy_0 : decode cL_wrongBy 0 = .ok (.aload_n 0, 1) := by decide +kernel
theorem dL_wrongBy_1 : decode cL_wrongBy 1 = .ok (.iload_n 1, 1) := by decide +kernel
theorem dL_wrongBy_2 : decode cL_wrongBy 2 = .ok (.invokevirtual 73, 3) := by decide +kernel
theorem dL_wrongBy_5 : decode cL_wrongBy 5 = .ok (.ireturn, 1) := by decide +kernel
theorem dL_wrongBy_6 : decode cL_wrongBy 6 = .ok (.astore_n 2, 1) := by decide +kernel
theorem dL_wrongBy_7 : decode cL_wrongBy 7 = .ok (.sipush (-1001), 3) := by decide +kernel
theorem dL_wrongBy_10 : decode cL_wrongBy 10 = .ok (.ireturn, 1) := by decide +kernel
theorem dL_seems_0 : decode cL_seems 0 = .ok (.aload_n 0, 1) := by decide +kernel
theorem dL_seems_1 : decode cL_seems 1 = .ok (.iload_n 1, 1) := by decide +kernel
theorem dL_seems_2 : decode cL_seems 2 = .ok (.iload_n 2, 1) := by decide +kernel
theorem dL_seems_3 : decode cL_seems 3 = .ok (.invokevirtual 76, 3) := by decide +kernel
theorem dL_seems_6 : decode cL_seems 6 = .ok (.ireturn, 1) := by decide +kernel
theorem dL_seems_7 : decode cL_seems 7 = .ok (.astore_n 3, 1) := by decide +kernel
theorem dL_seems_8 : decode cL_seems 8 = .ok (.sipush (-1001), 3) := by decide +kernel
theorem dL_seems_11 : decode cL_seems 11 = .ok (.ireturn, 1) := by decide +kernel
theorem dL_seemsAgain_0 : decode cL_seemsAgain 0 = .ok (.aload_n 0, 1) := by decide +kernel
theorem dL_seemsAgain_1 : decode cL_seemsAgain 1 = .ok (.iload_n 1, 1) := by decide +kernel
theorem dL_seemsAgain_2 : decode cL_seemsAgain 2 = .ok (.iload_n 2, 1) := by decide +kernel
theorem dL_seemsAgain_3 : decode cL_seemsAgain 3 = .ok (.invokevirtual 79, 3) := by decide +kernel
theorem dL_seemsAgain_6 : decode cL_seemsAgain 6 = .ok (.ireturn, 1) := by decide +kernel
theorem dL_seemsAgain_7 : decode cL_seemsAgain 7 = .ok (.astore_n 3, 1) := by decide +kernel
theorem dL_seemsAgain_8 : decode cL_seemsAgain 8 = .ok (.sipush (-1001), 3) := by decide +kernel
theorem dL_seemsAgain_11 : decode cL_seemsAgain 11 = .ok (.ireturn, 1) := by decide +kernel
theorem dL_shimmers_0 : decode cL_shimmers 0 = .ok (.aload_n 0, 1) := by decide +kernel
theorem dL_shimmers_1 : decode cL_shimmers 1 = .ok (.iload_n 1, 1) := by decide +kernel
theorem dL_shimmers_2 : decode cL_shimmers 2 = .ok (.iload_n 2, 1) := by decide +kernel
theorem dL_shimmers_3 : decode cL_shimmers 3 = .ok (.invokevirtual 82, 3) := by decide +kernel
theorem dL_shimmers_6 : decode cL_shimmers 6 = .ok (.ifCond .eq 7, 3) := by decide +kernel
theorem dL_shimmers_9 : decode cL_shimmers 9 = .ok (.iconst 1, 1) := by decide +kernel
theorem dL_shimmers_10 : decode cL_shimmers 10 = .ok (.goto 4, 3) := by decide +kernel
theorem dL_shimmers_13 : decode cL_shimmers 13 = .ok (.iconst 0, 1) := by decide +kernel
theorem dL_shimmers_14 : decode cL_shimmers 14 = .ok (.ireturn, 1) := by decide +kernel
theorem dL_shimmers_15 : decode cL_shimmers 15 = .ok (.astore_n 3, 1) := by decide +kernel
theorem dL_shimmers_16 : decode cL_shimmers 16 = .ok (.sipush (-1001), 3) := by decide +kernel
theorem dL_shimmers_19 : decode cL_shimmers 19 = .ok (.ireturn, 1) := by decide +kernel
theorem dL_bestPost_0 : decode cL_bestPost 0 = .ok (.aload_n 0, 1) := by decide +kernel
theorem dL_bestPost_1 : decode cL_bestPost 1 = .ok (.iload_n 1, 1) := by decide +kernel
theorem dL_bestPost_2 : decode cL_bestPost 2 = .ok (.invokevirtual 86, 3) := by decide +kernel
theorem dL_bestPost_5 : decode cL_bestPost 5 = .ok (.ireturn, 1) := by decide +kernel
theorem dL_bestPost_6 : decode cL_bestPost 6 = .ok (.astore_n 2, 1) := by decide +kernel
theorem dL_bestPost_7 : decode cL_bestPost 7 = .ok (.sipush (-1001), 3) := by decide +kernel
theorem dL_bestPost_10 : decode cL_bestPost 10 = .ok (.ireturn, 1) := by decide +kernel
theorem dL_bestPost_11 : decode cL_bestPost 11 = .ok (.astore_n 2, 1) := by decide +kernel
theorem dL_bestPost_12 : decode cL_bestPost 12 = .ok (.sipush (-1002), 3) := by decide +kernel
theorem dL_bestPost_15 : decode cL_bestPost 15 = .ok (.ireturn, 1) := by decide +kernel
theorem dL_clearIn_0 : decode cL_clearIn 0 = .ok (.aload_n 0, 1) := by decide +kernel
theorem dL_clearIn_1 : decode cL_clearIn 1 = .ok (.iload_n 1, 1) := by decide +kernel
theorem dL_clearIn_2 : decode cL_clearIn 2 = .ok (.iload_n 2, 1) := by decide +kernel
theorem dL_clearIn_3 : decode cL_clearIn 3 = .ok (.invokevirtual 89, 3) := by decide +kernel
theorem dL_clearIn_6 : decode cL_clearIn 6 = .ok (.ireturn, 1) := by decide +kernel
theorem dL_clearIn_7 : decode cL_clearIn 7 = .ok (.astore_n 3, 1) := by decide +kernel
theorem dL_clearIn_8 : decode cL_clearIn 8 = .ok (.sipush (-1001), 3) := by decide +kernel
theorem dL_clearIn_11 : decode cL_clearIn 11 = .ok (.ireturn, 1) := by decide +kernel
theorem dL_clearIn_12 : decode cL_clearIn 12 = .ok (.astore_n 3, 1) := by decide +kernel
theorem dL_clearIn_13 : decode cL_clearIn 13 = .ok (.sipush (-1002), 3) := by decide +kernel
theorem dL_clearIn_16 : decode cL_clearIn 16 = .ok (.ireturn, 1) := by decide +kernel
theorem dL_heatIn_0 : decode cL_heatIn 0 = .ok (.aload_n 0, 1) := by decide +kernel
theorem dL_heatIn_1 : decode cL_heatIn 1 = .ok (.iload_n 1, 1) := by decide +kernel
theorem dL_heatIn_2 : decode cL_heatIn 2 = .ok (.invokevirtual 92, 3) := by decide +kernel
theorem dL_heatIn_5 : decode cL_heatIn 5 = .ok (.ireturn, 1) := by decide +kernel
theorem dL_heatIn_6 : decode cL_heatIn 6 = .ok (.astore_n 2, 1) := by decide +kernel
theorem dL_heatIn_7 : decode cL_heatIn 7 = .ok (.sipush (-1001), 3) := by decide +kernel
theorem dL_heatIn_10 : decode cL_heatIn 10 = .ok (.ireturn, 1) := by decide +kernel
theorem dL_lostIn_0 : decode cL_lostIn 0 = .ok (.aload_n 0, 1) := by decide +kernel
theorem dL_lostIn_1 : decode cL_lostIn 1 = .ok (.iload_n 1, 1) := by decide +kernel
theorem dL_lostIn_2 : decode cL_lostIn 2 = .ok (.invokevirtual 95, 3) := by decide +kernel
theorem dL_lostIn_5 : decode cL_lostIn 5 = .ok (.ireturn, 1) := by decide +kernel
theorem dL_lostIn_6 : decode cL_lostIn 6 = .ok (.astore_n 2, 1) := by decide +kernel
theorem dL_lostIn_7 : decode cL_lostIn 7 = .ok (.sipush (-1001), 3) := by decide +kernel
theorem dL_lostIn_10 : decode cL_lostIn 10 = .ok (.ireturn, 1) := by decide +kernel
theorem dL_lostIn_11 : decode cL_lostIn 11 = .ok (.astore_n 2, 1) := by decide +kernel
theorem dL_lostIn_12 : decode cL_lostIn 12 = .ok (.sipush (-1002), 3) := by decide +kernel
theorem dL_lostIn_15 : decode cL_lostIn 15 = .ok (.ireturn, 1) := by decide +kernel
theorem dL_nearest_0 : decode cL_nearest 0 = .ok (.aload_n 0, 1) := by decide +kernel
theorem dL_nearest_1 : decode cL_nearest 1 = .ok (.iload_n 1, 1) := by decide +kernel
theorem dL_nearest_2 : decode cL_nearest 2 = .ok (.invokevirtual 98, 3) := by decide +kernel
theorem dL_nearest_5 : decode cL_nearest 5 = .ok (.ireturn, 1) := by decide +kernel
theorem dL_nearest_6 : decode cL_nearest 6 = .ok (.astore_n 2, 1) := by decide +kernel
theorem dL_nearest_7 : decode cL_nearest 7 = .ok (.sipush (-1001), 3) := by decide +kernel
theorem dL_nearest_10 : decode cL_nearest 10 = .ok (.ireturn, 1) := by decide +kernel
theorem dL_nearest_11 : decode cL_nearest 11 = .ok (.astore_n 2, 1) := by decide +kernel
theorem dL_nearest_12 : decode cL_nearest 12 = .ok (.sipush (-1002), 3) := by decide +kernel
theorem dL_nearest_15 : decode cL_nearest 15 = .ok (.ireturn, 1) := by decide +kernel
theorem dL_append_0 : decode cL_append 0 = .ok (.aload_n 0, 1) := by decide +kernel
theorem dL_append_1 : decode cL_append 1 = .ok (.iload_n 1, 1) := by decide +kernel
theorem dL_append_2 : decode cL_append 2 = .ok (.invokevirtual 101, 3) := by decide +kernel
theorem dL_append_5 : decode cL_append 5 = .ok (.ireturn, 1) := by decide +kernel
theorem dL_append_6 : decode cL_append 6 = .ok (.astore_n 2, 1) := by decide +kernel
theorem dL_append_7 : decode cL_append 7 = .ok (.sipush (-1001), 3) := by decide +kernel
theorem dL_append_10 : decode cL_append 10 = .ok (.ireturn, 1) := by decide +kernel
theorem dL_commands_0 : decode cL_commands 0 = .ok (.aload_n 0, 1) := by decide +kernel
theorem dL_commands_1 : decode cL_commands 1 = .ok (.invokevirtual 107, 3) := by decide +kernel
theorem dL_commands_4 : decode cL_commands 4 = .ok (.ireturn, 1) := by decide +kernel
theorem dL_commands_5 : decode cL_commands 5 = .ok (.astore_n 1, 1) := by decide +kernel
theorem dL_commands_6 : decode cL_commands 6 = .ok (.sipush (-1001), 3) := by decide +kernel
theorem dL_commands_9 : decode cL_commands 9 = .ok (.ireturn, 1) := by decide +kernel
theorem dL_commands_10 : decode cL_commands 10 = .ok (.astore_n 1, 1) := by decide +kernel
theorem dL_commands_11 : decode cL_commands 11 = .ok (.sipush (-1002), 3) := by decide +kernel
theorem dL_commands_14 : decode cL_commands 14 = .ok (.ireturn, 1) := by decide +kernel
theorem dL_reason_0 : decode cL_reason 0 = .ok (.aload_n 0, 1) := by decide +kernel
theorem dL_reason_1 : decode cL_reason 1 = .ok (.iload_n 1, 1) := by decide +kernel
theorem dL_reason_2 : decode cL_reason 2 = .ok (.invokevirtual 110, 3) := by decide +kernel
theorem dL_reason_5 : decode cL_reason 5 = .ok (.ireturn, 1) := by decide +kernel
theorem dL_reason_6 : decode cL_reason 6 = .ok (.astore_n 2, 1) := by decide +kernel
theorem dL_reason_7 : decode cL_reason 7 = .ok (.sipush (-1001), 3) := by decide +kernel
theorem dL_reason_10 : decode cL_reason 10 = .ok (.ireturn, 1) := by decide +kernel
theorem dL_reason_11 : decode cL_reason 11 = .ok (.astore_n 2, 1) := by decide +kernel
theorem dL_reason_12 : decode cL_reason 12 = .ok (.sipush (-1002), 3) := by decide +kernel
theorem dL_reason_15 : decode cL_reason 15 = .ok (.ireturn, 1) := by decide +kernel
theorem dL_line_0 : decode cL_line 0 = .ok (.aload_n 0, 1) := by decide +kernel
theorem dL_line_1 : decode cL_line 1 = .ok (.iload_n 1, 1) := by decide +kernel
theorem dL_line_2 : decode cL_line 2 = .ok (.invokevirtual 113, 3) := by decide +kernel
theorem dL_line_5 : decode cL_line 5 = .ok (.ireturn, 1) := by decide +kernel
theorem dL_line_6 : decode cL_line 6 = .ok (.astore_n 2, 1) := by decide +kernel
theorem dL_line_7 : decode cL_line 7 = .ok (.sipush (-1001), 3) := by decide +kernel
theorem dL_line_10 : decode cL_line 10 = .ok (.ireturn, 1) := by decide +kernel
theorem dL_character_0 : decode cL_character 0 = .ok (.aload_n 0, 1) := by decide +kernel
theorem dL_character_1 : decode cL_character 1 = .ok (.iload_n 1, 1) := by decide +kernel
theorem dL_character_2 : decode cL_character 2 = .ok (.invokevirtual 116, 3) := by decide +kernel
theorem dL_character_5 : decode cL_character 5 = .ok (.ireturn, 1) := by decide +kernel
theorem dL_character_6 : decode cL_character 6 = .ok (.astore_n 2, 1) := by decide +kernel
theorem dL_character_7 : decode cL_character 7 = .ok (.sipush (-1001), 3) := by decide +kernel
theorem dL_character_10 : decode cL_character 10 = .ok (.ireturn, 1) := by decide +kernel
theorem dL_meanThirst_0 : decode cL_meanThirst 0 = .ok (.aload_n 0, 1) := by decide +kernel
theorem dL_meanThirst_1 : decode cL_meanThirst 1 = .ok (.invokevirtual 120, 3) := by decide +kernel
theorem dL_meanThirst_4 : decode cL_meanThirst 4 = .ok (.freturn, 1) := by decide +kernel
theorem dL_meanThirst_5 : decode cL_meanThirst 5 = .ok (.astore_n 1, 1) := by decide +kernel
theorem dL_meanThirst_6 : decode cL_meanThirst 6 = .ok (.ldc 126, 2) := by decide +kernel
theorem dL_meanThirst_8 : decode cL_meanThirst 8 = .ok (.freturn, 1) := by decide +kernel
theorem dL_rightShare_0 : decode cL_rightShare 0 = .ok (.aload_n 0, 1) := by decide +kernel
theorem dL_rightShare_1 : decode cL_rightShare 1 = .ok (.invokevirtual 127, 3) := by decide +kernel
theorem dL_rightShare_4 : decode cL_rightShare 4 = .ok (.dreturn, 1) := by decide +kernel
theorem dL_rightShare_5 : decode cL_rightShare 5 = .ok (.astore_n 1, 1) := by decide +kernel
theorem dL_rightShare_6 : decode cL_rightShare 6 = .ok (.ldc2_w 131, 3) := by decide +kernel
theorem dL_rightShare_9 : decode cL_rightShare 9 = .ok (.dreturn, 1) := by decide +kernel
theorem dL_account_0 : decode cL_account 0 = .ok (.aload_n 0, 1) := by decide +kernel
theorem dL_account_1 : decode cL_account 1 = .ok (.iload_n 1, 1) := by decide +kernel
theorem dL_account_2 : decode cL_account 2 = .ok (.invokevirtual 133, 3) := by decide +kernel
theorem dL_account_5 : decode cL_account 5 = .ok (.ireturn, 1) := by decide +kernel
theorem dL_account_6 : decode cL_account 6 = .ok (.astore_n 2, 1) := by decide +kernel
theorem dL_account_7 : decode cL_account 7 = .ok (.sipush (-1001), 3) := by decide +kernel
theorem dL_account_10 : decode cL_account 10 = .ok (.ireturn, 1) := by decide +kernel
theorem dL_undo_0 : decode cL_undo 0 = .ok (.aload_n 0, 1) := by decide +kernel
theorem dL_undo_1 : decode cL_undo 1 = .ok (.invokevirtual 136, 3) := by decide +kernel
theorem dL_undo_4 : decode cL_undo 4 = .ok (.ireturn, 1) := by decide +kernel
theorem dL_undo_5 : decode cL_undo 5 = .ok (.astore_n 1, 1) := by decide +kernel
theorem dL_undo_6 : decode cL_undo 6 = .ok (.sipush (-1001), 3) := by decide +kernel
theorem dL_undo_9 : decode cL_undo 9 = .ok (.ireturn, 1) := by decide +kernel
theorem dL_restore_0 : decode cL_restore 0 = .ok (.aload_n 0, 1) := by decide +kernel
theorem dL_restore_1 : decode cL_restore 1 = .ok (.invokevirtual 139, 3) := by decide +kernel
theorem dL_restore_4 : decode cL_restore 4 = .ok (.ireturn, 1) := by decide +kernel
theorem dL_restore_5 : decode cL_restore 5 = .ok (.astore_n 1, 1) := by decide +kernel
theorem dL_restore_6 : decode cL_restore 6 = .ok (.sipush (-1001), 3) := by decide +kernel
theorem dL_restore_9 : decode cL_restore 9 = .ok (.ireturn, 1) := by decide +kernel
theorem dL_reads_0 : decode cL_reads 0 = .ok (.iconst 0, 1) := by decide +kernel
theorem dL_reads_1 : decode cL_reads 1 = .ok (.istore_n 2, 1) := by decide +kernel
theorem dL_reads_2 : decode cL_reads 2 = .ok (.iload_n 2, 1) := by decide +kernel
theorem dL_reads_3 : decode cL_reads 3 = .ok (.aload_n 1, 1) := by decide +kernel
theorem dL_reads_4 : decode cL_reads 4 = .ok (.invokevirtual 142, 3) := by decide +kernel
theorem dL_reads_7 : decode cL_reads 7 = .ok (.if_icmp .ge 28, 3) := by decide +kernel
theorem dL_reads_10 : decode cL_reads 10 = .ok (.aload_n 0, 1) := by decide +kernel
theorem dL_reads_11 : decode cL_reads 11 = .ok (.aload_n 1, 1) := by decide +kernel
theorem dL_reads_12 : decode cL_reads 12 = .ok (.iload_n 2, 1) := by decide +kernel
theorem dL_reads_13 : decode cL_reads 13 = .ok (.invokevirtual 147, 3) := by decide +kernel
theorem dL_reads_16 : decode cL_reads 16 = .ok (.invokestatic 150, 3) := by decide +kernel
theorem dL_reads_19 : decode cL_reads 19 = .ok (.iload_n 2, 1) := by decide +kernel
theorem dL_reads_20 : decode cL_reads 20 = .ok (.iconst 1, 1) := by decide +kernel
theorem dL_reads_21 : decode cL_reads 21 = .ok (.iadd, 1) := by decide +kernel
theorem dL_reads_22 : decode cL_reads 22 = .ok (.if_icmp .eq 7, 3) := by decide +kernel
theorem dL_reads_25 : decode cL_reads 25 = .ok (.sipush (-9999), 3) := by decide +kernel
theorem dL_reads_28 : decode cL_reads 28 = .ok (.ireturn, 1) := by decide +kernel
theorem dL_reads_29 : decode cL_reads 29 = .ok (.iinc 2 1, 3) := by decide +kernel
theorem dL_reads_32 : decode cL_reads 32 = .ok (.goto (-30), 3) := by decide +kernel
theorem dL_reads_35 : decode cL_reads 35 = .ok (.aload_n 0, 1) := by decide +kernel
theorem dL_reads_36 : decode cL_reads 36 = .ok (.invokestatic 155, 3) := by decide +kernel
theorem dL_reads_39 : decode cL_reads 39 = .ok (.ireturn, 1) := by decide +kernel
theorem dL_is_0 : decode cL_is 0 = .ok (.aload_n 0, 1) := by decide +kernel
theorem dL_is_1 : decode cL_is 1 = .ok (.iconst 0, 1) := by decide +kernel
theorem dL_is_2 : decode cL_is 2 = .ok (.invokestatic 158, 3) := by decide +kernel
theorem dL_is_5 : decode cL_is 5 = .ok (.iload_n 1, 1) := by decide +kernel
theorem dL_is_6 : decode cL_is 6 = .ok (.if_icmp .ne 25, 3) := by decide +kernel
theorem dL_is_9 : decode cL_is 9 = .ok (.aload_n 0, 1) := by decide +kernel
theorem dL_is_10 : decode cL_is 10 = .ok (.iconst 1, 1) := by decide +kernel
theorem dL_is_11 : decode cL_is 11 = .ok (.invokestatic 158, 3) := by decide +kernel
theorem dL_is_14 : decode cL_is 14 = .ok (.iload_n 2, 1) := by decide +kernel
theorem dL_is_15 : decode cL_is 15 = .ok (.if_icmp .ne 16, 3) := by decide +kernel
theorem dL_is_18 : decode cL_is 18 = .ok (.aload_n 0, 1) := by decide +kernel
theorem dL_is_19 : decode cL_is 19 = .ok (.iconst 2, 1) := by decide +kernel
theorem dL_is_20 : decode cL_is 20 = .ok (.invokestatic 158, 3) := by decide +kernel
theorem dL_is_23 : decode cL_is 23 = .ok (.iload_n 3, 1) := by decide +kernel
theorem dL_is_24 : decode cL_is 24 = .ok (.if_icmp .ne 7, 3) := by decide +kernel
theorem dL_is_27 : decode cL_is 27 = .ok (.iconst 1, 1) := by decide +kernel
theorem dL_is_28 : decode cL_is 28 = .ok (.goto 4, 3) := by decide +kernel
theorem dL_is_31 : decode cL_is 31 = .ok (.iconst 0, 1) := by decide +kernel
theorem dL_is_32 : decode cL_is 32 = .ok (.ireturn, 1) := by decide +kernel
theorem dL_makes_0 : decode cL_makes 0 = .ok (.iconst 0, 1) := by decide +kernel
theorem dL_makes_1 : decode cL_makes 1 = .ok (.istore_n 2, 1) := by decide +kernel
theorem dL_makes_2 : decode cL_makes 2 = .ok (.iload_n 2, 1) := by decide +kernel
theorem dL_makes_3 : decode cL_makes 3 = .ok (.bipush 6, 2) := by decide +kernel
theorem dL_makes_5 : decode cL_makes 5 = .ok (.if_icmp .ge 34, 3) := by decide +kernel
theorem dL_makes_8 : decode cL_makes 8 = .ok (.aload_n 0, 1) := by decide +kernel
theorem dL_makes_9 : decode cL_makes 9 = .ok (.bipush 16, 2) := by decide +kernel
theorem dL_makes_11 : decode cL_makes 11 = .ok (.iload_n 2, 1) := by decide +kernel
theorem dL_makes_12 : decode cL_makes 12 = .ok (.imul, 1) := by decide +kernel
theorem dL_makes_13 : decode cL_makes 13 = .ok (.aload_n 1, 1) := by decide +kernel
theorem dL_makes_14 : decode cL_makes 14 = .ok (.iload_n 2, 1) := by decide +kernel
theorem dL_makes_15 : decode cL_makes 15 = .ok (.invokestatic 165, 3) := by decide +kernel
theorem dL_makes_18 : decode cL_makes 18 = .ok (.bipush 16, 2) := by decide +kernel
theorem dL_makes_20 : decode cL_makes 20 = .ok (.invokestatic 169, 3) := by decide +kernel
theorem dL_makes_23 : decode cL_makes 23 = .ok (.iadd, 1) := by decide +kernel
theorem dL_makes_24 : decode cL_makes 24 = .ok (.invokestatic 172, 3) := by decide +kernel
theorem dL_makes_27 : decode cL_makes 27 = .ok (.iload_n 2, 1) := by decide +kernel
theorem dL_makes_28 : decode cL_makes 28 = .ok (.if_icmp .eq 5, 3) := by decide +kernel
theorem dL_makes_31 : decode cL_makes 31 = .ok (.iconst 0, 1) := by decide +kernel
theorem dL_makes_32 : decode cL_makes 32 = .ok (.ireturn, 1) := by decide +kernel
theorem dL_makes_33 : decode cL_makes 33 = .ok (.iinc 2 1, 3) := by decide +kernel
theorem dL_makes_36 : decode cL_makes 36 = .ok (.goto (-34), 3) := by decide +kernel
theorem dL_makes_39 : decode cL_makes 39 = .ok (.iconst 0, 1) := by decide +kernel
theorem dL_makes_40 : decode cL_makes 40 = .ok (.istore_n 2, 1) := by decide +kernel
theorem dL_makes_41 : decode cL_makes 41 = .ok (.iload_n 2, 1) := by decide +kernel
theorem dL_makes_42 : decode cL_makes 42 = .ok (.iconst 3, 1) := by decide +kernel
theorem dL_makes_43 : decode cL_makes 43 = .ok (.if_icmp .ge 50, 3) := by decide +kernel
theorem dL_makes_46 : decode cL_makes 46 = .ok (.aload_n 0, 1) := by decide +kernel
theorem dL_makes_47 : decode cL_makes 47 = .ok (.aload_n 1, 1) := by decide +kernel
theorem dL_makes_48 : decode cL_makes 48 = .ok (.bipush 6, 2) := by decide +kernel
theorem dL_makes_50 : decode cL_makes 50 = .ok (.iload_n 2, 1) := by decide +kernel
theorem dL_makes_51 : decode cL_makes 51 = .ok (.iadd, 1) := by decide +kernel
theorem dL_makes_52 : decode cL_makes 52 = .ok (.invokestatic 165, 3) := by decide +kernel
theorem dL_makes_55 : decode cL_makes 55 = .ok (.bipush 100, 2) := by decide +kernel
theorem dL_makes_57 : decode cL_makes 57 = .ok (.invokestatic 169, 3) := by decide +kernel
theorem dL_makes_60 : decode cL_makes 60 = .ok (.iconst 1, 1) := by decide +kernel
theorem dL_makes_61 : decode cL_makes 61 = .ok (.aload_n 1, 1) := by decide +kernel
theorem dL_makes_62 : decode cL_makes 62 = .ok (.bipush 6, 2) := by decide +kernel
theorem dL_makes_64 : decode cL_makes 64 = .ok (.iload_n 2, 1) := by decide +kernel
theorem dL_makes_65 : decode cL_makes 65 = .ok (.iadd, 1) := by decide +kernel
theorem dL_makes_66 : decode cL_makes 66 = .ok (.invokestatic 165, 3) := by decide +kernel
theorem dL_makes_69 : decode cL_makes 69 = .ok (.bipush 7, 2) := by decide +kernel
theorem dL_makes_71 : decode cL_makes 71 = .ok (.ishr, 1) := by decide +kernel
theorem dL_makes_72 : decode cL_makes 72 = .ok (.bipush 9, 2) := by decide +kernel
theorem dL_makes_74 : decode cL_makes 74 = .ok (.invokestatic 169, 3) := by decide +kernel
theorem dL_makes_77 : decode cL_makes 77 = .ok (.iadd, 1) := by decide +kernel
theorem dL_makes_78 : decode cL_makes 78 = .ok (.invokestatic 174, 3) := by decide +kernel
theorem dL_makes_81 : decode cL_makes 81 = .ok (.iload_n 2, 1) := by decide +kernel
theorem dL_makes_82 : decode cL_makes 82 = .ok (.if_icmp .eq 5, 3) := by decide +kernel
theorem dL_makes_85 : decode cL_makes 85 = .ok (.iconst 0, 1) := by decide +kernel
theorem dL_makes_86 : decode cL_makes 86 = .ok (.ireturn, 1) := by decide +kernel
theorem dL_makes_87 : decode cL_makes 87 = .ok (.iinc 2 1, 3) := by decide +kernel
theorem dL_makes_90 : decode cL_makes 90 = .ok (.goto (-49), 3) := by decide +kernel
theorem dL_makes_93 : decode cL_makes 93 = .ok (.iconst 0, 1) := by decide +kernel
theorem dL_makes_94 : decode cL_makes 94 = .ok (.istore_n 2, 1) := by decide +kernel
theorem dL_makes_95 : decode cL_makes 95 = .ok (.iload_n 2, 1) := by decide +kernel
theorem dL_makes_96 : decode cL_makes 96 = .ok (.iconst 2, 1) := by decide +kernel
theorem dL_makes_97 : decode cL_makes 97 = .ok (.if_icmp .ge 19, 3) := by decide +kernel
theorem dL_makes_100 : decode cL_makes 100 = .ok (.aload_n 0, 1) := by decide +kernel
theorem dL_makes_101 : decode cL_makes 101 = .ok (.invokestatic 177, 3) := by decide +kernel
theorem dL_makes_104 : decode cL_makes 104 = .ok (.iload_n 2, 1) := by decide +kernel
theorem dL_makes_105 : decode cL_makes 105 = .ok (.if_icmp .eq 5, 3) := by decide +kernel
theorem dL_makes_108 : decode cL_makes 108 = .ok (.iconst 0, 1) := by decide +kernel
theorem dL_makes_109 : decode cL_makes 109 = .ok (.ireturn, 1) := by decide +kernel
theorem dL_makes_110 : decode cL_makes 110 = .ok (.iinc 2 1, 3) := by decide +kernel
theorem dL_makes_113 : decode cL_makes 113 = .ok (.goto (-18), 3) := by decide +kernel
theorem dL_makes_116 : decode cL_makes 116 = .ok (.iconst 0, 1) := by decide +kernel
theorem dL_makes_117 : decode cL_makes 117 = .ok (.istore_n 2, 1) := by decide +kernel
theorem dL_makes_118 : decode cL_makes 118 = .ok (.iload_n 2, 1) := by decide +kernel
theorem dL_makes_119 : decode cL_makes 119 = .ok (.iconst 5, 1) := by decide +kernel
theorem dL_makes_120 : decode cL_makes 120 = .ok (.if_icmp .ge 32, 3) := by decide +kernel
theorem dL_makes_123 : decode cL_makes 123 = .ok (.aload_n 0, 1) := by decide +kernel
theorem dL_makes_124 : decode cL_makes 124 = .ok (.aload_n 1, 1) := by decide +kernel
theorem dL_makes_125 : decode cL_makes 125 = .ok (.bipush 9, 2) := by decide +kernel
theorem dL_makes_127 : decode cL_makes 127 = .ok (.iload_n 2, 1) := by decide +kernel
theorem dL_makes_128 : decode cL_makes 128 = .ok (.iadd, 1) := by decide +kernel
theorem dL_makes_129 : decode cL_makes 129 = .ok (.invokestatic 165, 3) := by decide +kernel
theorem dL_makes_132 : decode cL_makes 132 = .ok (.bipush 100, 2) := by decide +kernel
theorem dL_makes_134 : decode cL_makes 134 = .ok (.invokestatic 169, 3) := by decide +kernel
theorem dL_makes_137 : decode cL_makes 137 = .ok (.invokestatic 179, 3) := by decide +kernel
theorem dL_makes_140 : decode cL_makes 140 = .ok (.iload_n 2, 1) := by decide +kernel
theorem dL_makes_141 : decode cL_makes 141 = .ok (.if_icmp .eq 5, 3) := by decide +kernel
theorem dL_makes_144 : decode cL_makes 144 = .ok (.iconst 0, 1) := by decide +kernel
theorem dL_makes_145 : decode cL_makes 145 = .ok (.ireturn, 1) := by decide +kernel
theorem dL_makes_146 : decode cL_makes 146 = .ok (.iinc 2 1, 3) := by decide +kernel
theorem dL_makes_149 : decode cL_makes 149 = .ok (.goto (-31), 3) := by decide +kernel
theorem dL_makes_152 : decode cL_makes 152 = .ok (.aload_n 0, 1) := by decide +kernel
theorem dL_makes_153 : decode cL_makes 153 = .ok (.aload_n 1, 1) := by decide +kernel
theorem dL_makes_154 : decode cL_makes 154 = .ok (.bipush 14, 2) := by decide +kernel
theorem dL_makes_156 : decode cL_makes 156 = .ok (.invokestatic 165, 3) := by decide +kernel
theorem dL_makes_159 : decode cL_makes 159 = .ok (.bipush 10, 2) := by decide +kernel
theorem dL_makes_161 : decode cL_makes 161 = .ok (.invokestatic 169, 3) := by decide +kernel
theorem dL_makes_164 : decode cL_makes 164 = .ok (.invokestatic 181, 3) := by decide +kernel
theorem dL_makes_167 : decode cL_makes 167 = .ok (.ifCond .ne 27, 3) := by decide +kernel
theorem dL_makes_170 : decode cL_makes 170 = .ok (.aload_n 0, 1) := by decide +kernel
theorem dL_makes_171 : decode cL_makes 171 = .ok (.iconst 1, 1) := by decide +kernel
theorem dL_makes_172 : decode cL_makes 172 = .ok (.aload_n 1, 1) := by decide +kernel
theorem dL_makes_173 : decode cL_makes 173 = .ok (.bipush 15, 2) := by decide +kernel
theorem dL_makes_175 : decode cL_makes 175 = .ok (.invokestatic 165, 3) := by decide +kernel
theorem dL_makes_178 : decode cL_makes 178 = .ok (.bipush 20, 2) := by decide +kernel
theorem dL_makes_180 : decode cL_makes 180 = .ok (.invokestatic 169, 3) := by decide +kernel
theorem dL_makes_183 : decode cL_makes 183 = .ok (.iadd, 1) := by decide +kernel
theorem dL_makes_184 : decode cL_makes 184 = .ok (.invokestatic 183, 3) := by decide +kernel
theorem dL_makes_187 : decode cL_makes 187 = .ok (.ifCond .lt 7, 3) := by decide +kernel
theorem dL_makes_190 : decode cL_makes 190 = .ok (.iconst 1, 1) := by decide +kernel
theorem dL_makes_191 : decode cL_makes 191 = .ok (.goto 4, 3) := by decide +kernel
theorem dL_makes_194 : decode cL_makes 194 = .ok (.iconst 0, 1) := by decide +kernel
theorem dL_makes_195 : decode cL_makes 195 = .ok (.ireturn, 1) := by decide +kernel
theorem dL_asks_0 : decode cL_asks 0 = .ok (.ldc2_w 185, 3) := by decide +kernel
theorem dL_asks_3 : decode cL_asks 3 = .ok (.aload_n 0, 1) := by decide +kernel
theorem dL_asks_4 : decode cL_asks 4 = .ok (.invokestatic 187, 3) := by decide +kernel
theorem dL_asks_7 : decode cL_asks 7 = .ok (.invokestatic 190, 3) := by decide +kernel
theorem dL_asks_10 : decode cL_asks 10 = .ok (.lmul, 1) := by decide +kernel
theorem dL_asks_11 : decode cL_asks 11 = .ok (.aload_n 0, 1) := by decide +kernel
theorem dL_asks_12 : decode cL_asks 12 = .ok (.invokestatic 196, 3) := by decide +kernel
theorem dL_asks_15 : decode cL_asks 15 = .ok (.invokestatic 199, 3) := by decide +kernel
theorem dL_asks_18 : decode cL_asks 18 = .ok (.i2l, 1) := by decide +kernel
theorem dL_asks_19 : decode cL_asks 19 = .ok (.ladd, 1) := by decide +kernel
theorem dL_asks_20 : decode cL_asks 20 = .ok (.lstore_n 1, 1) := by decide +kernel
theorem dL_asks_21 : decode cL_asks 21 = .ok (.iconst 0, 1) := by decide +kernel
theorem dL_asks_22 : decode cL_asks 22 = .ok (.istore_n 3, 1) := by decide +kernel
theorem dL_asks_23 : decode cL_asks 23 = .ok (.iload_n 3, 1) := by decide +kernel
theorem dL_asks_24 : decode cL_asks 24 = .ok (.bipush 15, 2) := by decide +kernel
theorem dL_asks_26 : decode cL_asks 26 = .ok (.if_icmp .ge 22, 3) := by decide +kernel
theorem dL_asks_29 : decode cL_asks 29 = .ok (.ldc2_w 185, 3) := by decide +kernel
theorem dL_asks_32 : decode cL_asks 32 = .ok (.lload_n 1, 1) := by decide +kernel
theorem dL_asks_33 : decode cL_asks 33 = .ok (.lmul, 1) := by decide +kernel
theorem dL_asks_34 : decode cL_asks 34 = .ok (.aload_n 0, 1) := by decide +kernel
theorem dL_asks_35 : decode cL_asks 35 = .ok (.iload_n 3, 1) := by decide +kernel
theorem dL_asks_36 : decode cL_asks 36 = .ok (.invokestatic 205, 3) := by decide +kernel
theorem dL_asks_39 : decode cL_asks 39 = .ok (.i2l, 1) := by decide +kernel
theorem dL_asks_40 : decode cL_asks 40 = .ok (.ladd, 1) := by decide +kernel
theorem dL_asks_41 : decode cL_asks 41 = .ok (.lstore_n 1, 1) := by decide +kernel
theorem dL_asks_42 : decode cL_asks 42 = .ok (.iinc 3 1, 3) := by decide +kernel
theorem dL_asks_45 : decode cL_asks 45 = .ok (.goto (-22), 3) := by decide +kernel
theorem dL_asks_48 : decode cL_asks 48 = .ok (.iconst 0, 1) := by decide +kernel
theorem dL_asks_49 : decode cL_asks 49 = .ok (.istore_n 3, 1) := by decide +kernel
theorem dL_asks_50 : decode cL_asks 50 = .ok (.iload_n 3, 1) := by decide +kernel
theorem dL_asks_51 : decode cL_asks 51 = .ok (.aload_n 0, 1) := by decide +kernel
theorem dL_asks_52 : decode cL_asks 52 = .ok (.iconst 4, 1) := by decide +kernel
theorem dL_asks_53 : decode cL_asks 53 = .ok (.invokestatic 205, 3) := by decide +kernel
theorem dL_asks_56 : decode cL_asks 56 = .ok (.if_icmp .ge 141, 3) := by decide +kernel
theorem dL_asks_59 : decode cL_asks 59 = .ok (.ldc2_w 185, 3) := by decide +kernel
theorem dL_asks_62 : decode cL_asks 62 = .ok (.ldc2_w 185, 3) := by decide +kernel
theorem dL_asks_65 : decode cL_asks 65 = .ok (.lload_n 1, 1) := by decide +kernel
theorem dL_asks_66 : decode cL_asks 66 = .ok (.lmul, 1) := by decide +kernel
theorem dL_asks_67 : decode cL_asks 67 = .ok (.aload_n 0, 1) := by decide +kernel
theorem dL_asks_68 : decode cL_asks 68 = .ok (.iload_n 3, 1) := by decide +kernel
theorem dL_asks_69 : decode cL_asks 69 = .ok (.invokestatic 207, 3) := by decide +kernel
theorem dL_asks_72 : decode cL_asks 72 = .ok (.i2l, 1) := by decide +kernel
theorem dL_asks_73 : decode cL_asks 73 = .ok (.ladd, 1) := by decide +kernel
theorem dL_asks_74 : decode cL_asks 74 = .ok (.lmul, 1) := by decide +kernel
theorem dL_asks_75 : decode cL_asks 75 = .ok (.aload_n 0, 1) := by decide +kernel
theorem dL_asks_76 : decode cL_asks 76 = .ok (.iload_n 3, 1) := by decide +kernel
theorem dL_asks_77 : decode cL_asks 77 = .ok (.invokestatic 209, 3) := by decide +kernel
theorem dL_asks_80 : decode cL_asks 80 = .ok (.i2l, 1) := by decide +kernel
theorem dL_asks_81 : decode cL_asks 81 = .ok (.ladd, 1) := by decide +kernel
theorem dL_asks_82 : decode cL_asks 82 = .ok (.lstore_n 1, 1) := by decide +kernel
theorem dL_asks_83 : decode cL_asks 83 = .ok (.iconst 0, 1) := by decide +kernel
theorem dL_asks_84 : decode cL_asks 84 = .ok (.istore 4, 2) := by decide +kernel
theorem dL_asks_86 : decode cL_asks 86 = .ok (.iload 4, 2) := by decide +kernel
theorem dL_asks_88 : decode cL_asks 88 = .ok (.aload_n 0, 1) := by decide +kernel
theorem dL_asks_89 : decode cL_asks 89 = .ok (.bipush 6, 2) := by decide +kernel
theorem dL_asks_91 : decode cL_asks 91 = .ok (.invokestatic 205, 3) := by decide +kernel
theorem dL_asks_94 : decode cL_asks 94 = .ok (.if_icmp .ge 24, 3) := by decide +kernel
theorem dL_asks_97 : decode cL_asks 97 = .ok (.ldc2_w 185, 3) := by decide +kernel
theorem dL_asks_100 : decode cL_asks 100 = .ok (.lload_n 1, 1) := by decide +kernel
theorem dL_asks_101 : decode cL_asks 101 = .ok (.lmul, 1) := by decide +kernel
theorem dL_asks_102 : decode cL_asks 102 = .ok (.aload_n 0, 1) := by decide +kernel
theorem dL_asks_103 : decode cL_asks 103 = .ok (.iload_n 3, 1) := by decide +kernel
theorem dL_asks_104 : decode cL_asks 104 = .ok (.iload 4, 2) := by decide +kernel
theorem dL_asks_106 : decode cL_asks 106 = .ok (.invokestatic 211, 3) := by decide +kernel
theorem dL_asks_109 : decode cL_asks 109 = .ok (.i2l, 1) := by decide +kernel
theorem dL_asks_110 : decode cL_asks 110 = .ok (.ladd, 1) := by decide +kernel
theorem dL_asks_111 : decode cL_asks 111 = .ok (.lstore_n 1, 1) := by decide +kernel
theorem dL_asks_112 : decode cL_asks 112 = .ok (.iinc 4 1, 3) := by decide +kernel
theorem dL_asks_115 : decode cL_asks 115 = .ok (.goto (-29), 3) := by decide +kernel
theorem dL_asks_118 : decode cL_asks 118 = .ok (.iconst 0, 1) := by decide +kernel
theorem dL_asks_119 : decode cL_asks 119 = .ok (.istore 4, 2) := by decide +kernel
theorem dL_asks_121 : decode cL_asks 121 = .ok (.iload 4, 2) := by decide +kernel
theorem dL_asks_123 : decode cL_asks 123 = .ok (.aload_n 0, 1) := by decide +kernel
theorem dL_asks_124 : decode cL_asks 124 = .ok (.iconst 5, 1) := by decide +kernel
theorem dL_asks_125 : decode cL_asks 125 = .ok (.invokestatic 205, 3) := by decide +kernel
theorem dL_asks_128 : decode cL_asks 128 = .ok (.if_icmp .ge 63, 3) := by decide +kernel
theorem dL_asks_131 : decode cL_asks 131 = .ok (.ldc2_w 185, 3) := by decide +kernel
theorem dL_asks_134 : decode cL_asks 134 = .ok (.ldc2_w 185, 3) := by decide +kernel
theorem dL_asks_137 : decode cL_asks 137 = .ok (.ldc2_w 185, 3) := by decide +kernel
theorem dL_asks_140 : decode cL_asks 140 = .ok (.ldc2_w 185, 3) := by decide +kernel
theorem dL_asks_143 : decode cL_asks 143 = .ok (.lload_n 1, 1) := by decide +kernel
theorem dL_asks_144 : decode cL_asks 144 = .ok (.lmul, 1) := by decide +kernel
theorem dL_asks_145 : decode cL_asks 145 = .ok (.aload_n 0, 1) := by decide +kernel
theorem dL_asks_146 : decode cL_asks 146 = .ok (.iload_n 3, 1) := by decide +kernel
theorem dL_asks_147 : decode cL_asks 147 = .ok (.iload 4, 2) := by decide +kernel
theorem dL_asks_149 : decode cL_asks 149 = .ok (.invokestatic 213, 3) := by decide +kernel
theorem dL_asks_152 : decode cL_asks 152 = .ok (.i2l, 1) := by decide +kernel
theorem dL_asks_153 : decode cL_asks 153 = .ok (.ladd, 1) := by decide +kernel
theorem dL_asks_154 : decode cL_asks 154 = .ok (.lmul, 1) := by decide +kernel
theorem dL_asks_155 : decode cL_asks 155 = .ok (.aload_n 0, 1) := by decide +kernel
theorem dL_asks_156 : decode cL_asks 156 = .ok (.iload_n 3, 1) := by decide +kernel
theorem dL_asks_157 : decode cL_asks 157 = .ok (.iload 4, 2) := by decide +kernel
theorem dL_asks_159 : decode cL_asks 159 = .ok (.invokestatic 215, 3) := by decide +kernel
theorem dL_asks_162 : decode cL_asks 162 = .ok (.i2l, 1) := by decide +kernel
theorem dL_asks_163 : decode cL_asks 163 = .ok (.ladd, 1) := by decide +kernel
theorem dL_asks_164 : decode cL_asks 164 = .ok (.lmul, 1) := by decide +kernel
theorem dL_asks_165 : decode cL_asks 165 = .ok (.aload_n 0, 1) := by decide +kernel
theorem dL_asks_166 : decode cL_asks 166 = .ok (.iload_n 3, 1) := by decide +kernel
theorem dL_asks_167 : decode cL_asks 167 = .ok (.iload 4, 2) := by decide +kernel
theorem dL_asks_169 : decode cL_asks 169 = .ok (.invokestatic 217, 3) := by decide +kernel
theorem dL_asks_172 : decode cL_asks 172 = .ok (.i2l, 1) := by decide +kernel
theorem dL_asks_173 : decode cL_asks 173 = .ok (.ladd, 1) := by decide +kernel
theorem dL_asks_174 : decode cL_asks 174 = .ok (.lmul, 1) := by decide +kernel
theorem dL_asks_175 : decode cL_asks 175 = .ok (.aload_n 0, 1) := by decide +kernel
theorem dL_asks_176 : decode cL_asks 176 = .ok (.iload_n 3, 1) := by decide +kernel
theorem dL_asks_177 : decode cL_asks 177 = .ok (.iload 4, 2) := by decide +kernel
theorem dL_asks_179 : decode cL_asks 179 = .ok (.invokestatic 219, 3) := by decide +kernel
theorem dL_asks_182 : decode cL_asks 182 = .ok (.i2l, 1) := by decide +kernel
theorem dL_asks_183 : decode cL_asks 183 = .ok (.ladd, 1) := by decide +kernel
theorem dL_asks_184 : decode cL_asks 184 = .ok (.lstore_n 1, 1) := by decide +kernel
theorem dL_asks_185 : decode cL_asks 185 = .ok (.iinc 4 1, 3) := by decide +kernel
theorem dL_asks_188 : decode cL_asks 188 = .ok (.goto (-67), 3) := by decide +kernel
theorem dL_asks_191 : decode cL_asks 191 = .ok (.iinc 3 1, 3) := by decide +kernel
theorem dL_asks_194 : decode cL_asks 194 = .ok (.goto (-144), 3) := by decide +kernel
theorem dL_asks_197 : decode cL_asks 197 = .ok (.iconst 0, 1) := by decide +kernel
theorem dL_asks_198 : decode cL_asks 198 = .ok (.istore_n 3, 1) := by decide +kernel
theorem dL_asks_199 : decode cL_asks 199 = .ok (.iload_n 3, 1) := by decide +kernel
theorem dL_asks_200 : decode cL_asks 200 = .ok (.aload_n 0, 1) := by decide +kernel
theorem dL_asks_201 : decode cL_asks 201 = .ok (.iconst 5, 1) := by decide +kernel
theorem dL_asks_202 : decode cL_asks 202 = .ok (.invokestatic 205, 3) := by decide +kernel
theorem dL_asks_205 : decode cL_asks 205 = .ok (.if_icmp .ge 35, 3) := by decide +kernel
theorem dL_asks_208 : decode cL_asks 208 = .ok (.ldc2_w 185, 3) := by decide +kernel
theorem dL_asks_211 : decode cL_asks 211 = .ok (.ldc2_w 185, 3) := by decide +kernel
theorem dL_asks_214 : decode cL_asks 214 = .ok (.lload_n 1, 1) := by decide +kernel
theorem dL_asks_215 : decode cL_asks 215 = .ok (.lmul, 1) := by decide +kernel
theorem dL_asks_216 : decode cL_asks 216 = .ok (.aload_n 0, 1) := by decide +kernel
theorem dL_asks_217 : decode cL_asks 217 = .ok (.iload_n 3, 1) := by decide +kernel
theorem dL_asks_218 : decode cL_asks 218 = .ok (.iconst 1, 1) := by decide +kernel
theorem dL_asks_219 : decode cL_asks 219 = .ok (.invokestatic 221, 3) := by decide +kernel
theorem dL_asks_222 : decode cL_asks 222 = .ok (.i2l, 1) := by decide +kernel
theorem dL_asks_223 : decode cL_asks 223 = .ok (.ladd, 1) := by decide +kernel
theorem dL_asks_224 : decode cL_asks 224 = .ok (.lmul, 1) := by decide +kernel
theorem dL_asks_225 : decode cL_asks 225 = .ok (.aload_n 0, 1) := by decide +kernel
theorem dL_asks_226 : decode cL_asks 226 = .ok (.iload_n 3, 1) := by decide +kernel
theorem dL_asks_227 : decode cL_asks 227 = .ok (.iconst 0, 1) := by decide +kernel
theorem dL_asks_228 : decode cL_asks 228 = .ok (.invokestatic 221, 3) := by decide +kernel
theorem dL_asks_231 : decode cL_asks 231 = .ok (.i2l, 1) := by decide +kernel
theorem dL_asks_232 : decode cL_asks 232 = .ok (.ladd, 1) := by decide +kernel
theorem dL_asks_233 : decode cL_asks 233 = .ok (.lstore_n 1, 1) := by decide +kernel
theorem dL_asks_234 : decode cL_asks 234 = .ok (.iinc 3 1, 3) := by decide +kernel
theorem dL_asks_237 : decode cL_asks 237 = .ok (.goto (-38), 3) := by decide +kernel
theorem dL_asks_240 : decode cL_asks 240 = .ok (.iconst 0, 1) := by decide +kernel
theorem dL_asks_241 : decode cL_asks 241 = .ok (.istore_n 3, 1) := by decide +kernel
theorem dL_asks_242 : decode cL_asks 242 = .ok (.iload_n 3, 1) := by decide +kernel
theorem dL_asks_243 : decode cL_asks 243 = .ok (.aload_n 0, 1) := by decide +kernel
theorem dL_asks_244 : decode cL_asks 244 = .ok (.bipush 8, 2) := by decide +kernel
theorem dL_asks_246 : decode cL_asks 246 = .ok (.invokestatic 205, 3) := by decide +kernel
theorem dL_asks_249 : decode cL_asks 249 = .ok (.if_icmp .ge 52, 3) := by decide +kernel
theorem dL_asks_252 : decode cL_asks 252 = .ok (.iconst 0, 1) := by decide +kernel
theorem dL_asks_253 : decode cL_asks 253 = .ok (.istore 4, 2) := by decide +kernel
theorem dL_asks_255 : decode cL_asks 255 = .ok (.iload 4, 2) := by decide +kernel
theorem dL_asks_257 : decode cL_asks 257 = .ok (.iconst 5, 1) := by decide +kernel
theorem dL_asks_258 : decode cL_asks 258 = .ok (.if_icmp .ge 24, 3) := by decide +kernel
theorem dL_asks_261 : decode cL_asks 261 = .ok (.ldc2_w 185, 3) := by decide +kernel
theorem dL_asks_264 : decode cL_asks 264 = .ok (.lload_n 1, 1) := by decide +kernel
theorem dL_asks_265 : decode cL_asks 265 = .ok (.lmul, 1) := by decide +kernel
theorem dL_asks_266 : decode cL_asks 266 = .ok (.aload_n 0, 1) := by decide +kernel
theorem dL_asks_267 : decode cL_asks 267 = .ok (.iload_n 3, 1) := by decide +kernel
theorem dL_asks_268 : decode cL_asks 268 = .ok (.iload 4, 2) := by decide +kernel
theorem dL_asks_270 : decode cL_asks 270 = .ok (.invokestatic 224, 3) := by decide +kernel
theorem dL_asks_273 : decode cL_asks 273 = .ok (.i2l, 1) := by decide +kernel
theorem dL_asks_274 : decode cL_asks 274 = .ok (.ladd, 1) := by decide +kernel
theorem dL_asks_275 : decode cL_asks 275 = .ok (.lstore_n 1, 1) := by decide +kernel
theorem dL_asks_276 : decode cL_asks 276 = .ok (.iinc 4 1, 3) := by decide +kernel
theorem dL_asks_279 : decode cL_asks 279 = .ok (.goto (-24), 3) := by decide +kernel
theorem dL_asks_282 : decode cL_asks 282 = .ok (.ldc2_w 185, 3) := by decide +kernel
theorem dL_asks_285 : decode cL_asks 285 = .ok (.lload_n 1, 1) := by decide +kernel
theorem dL_asks_286 : decode cL_asks 286 = .ok (.lmul, 1) := by decide +kernel
theorem dL_asks_287 : decode cL_asks 287 = .ok (.aload_n 0, 1) := by decide +kernel
theorem dL_asks_288 : decode cL_asks 288 = .ok (.iload_n 3, 1) := by decide +kernel
theorem dL_asks_289 : decode cL_asks 289 = .ok (.invokestatic 226, 3) := by decide +kernel
theorem dL_asks_292 : decode cL_asks 292 = .ok (.i2l, 1) := by decide +kernel
theorem dL_asks_293 : decode cL_asks 293 = .ok (.ladd, 1) := by decide +kernel
theorem dL_asks_294 : decode cL_asks 294 = .ok (.lstore_n 1, 1) := by decide +kernel
theorem dL_asks_295 : decode cL_asks 295 = .ok (.iinc 3 1, 3) := by decide +kernel
theorem dL_asks_298 : decode cL_asks 298 = .ok (.goto (-56), 3) := by decide +kernel
theorem dL_asks_301 : decode cL_asks 301 = .ok (.iconst 0, 1) := by decide +kernel
theorem dL_asks_302 : decode cL_asks 302 = .ok (.istore_n 3, 1) := by decide +kernel
theorem dL_asks_303 : decode cL_asks 303 = .ok (.iload_n 3, 1) := by decide +kernel
theorem dL_asks_304 : decode cL_asks 304 = .ok (.aload_n 0, 1) := by decide +kernel
theorem dL_asks_305 : decode cL_asks 305 = .ok (.bipush 6, 2) := by decide +kernel
theorem dL_asks_307 : decode cL_asks 307 = .ok (.invokestatic 205, 3) := by decide +kernel
theorem dL_asks_310 : decode cL_asks 310 = .ok (.if_icmp .ge 59, 3) := by decide +kernel
theorem dL_asks_313 : decode cL_asks 313 = .ok (.ldc2_w 185, 3) := by decide +kernel
theorem dL_asks_316 : decode cL_asks 316 = .ok (.lload_n 1, 1) := by decide +kernel
theorem dL_asks_317 : decode cL_asks 317 = .ok (.lmul, 1) := by decide +kernel
theorem dL_asks_318 : decode cL_asks 318 = .ok (.aload_n 0, 1) := by decide +kernel
theorem dL_asks_319 : decode cL_asks 319 = .ok (.iload_n 3, 1) := by decide +kernel
theorem dL_asks_320 : decode cL_asks 320 = .ok (.invokestatic 228, 3) := by decide +kernel
theorem dL_asks_323 : decode cL_asks 323 = .ok (.i2l, 1) := by decide +kernel
theorem dL_asks_324 : decode cL_asks 324 = .ok (.ladd, 1) := by decide +kernel
theorem dL_asks_325 : decode cL_asks 325 = .ok (.lstore_n 1, 1) := by decide +kernel
theorem dL_asks_326 : decode cL_asks 326 = .ok (.aload_n 0, 1) := by decide +kernel
theorem dL_asks_327 : decode cL_asks 327 = .ok (.iload_n 3, 1) := by decide +kernel
theorem dL_asks_328 : decode cL_asks 328 = .ok (.invokestatic 161, 3) := by decide +kernel
theorem dL_asks_331 : decode cL_asks 331 = .ok (.istore 4, 2) := by decide +kernel
theorem dL_asks_333 : decode cL_asks 333 = .ok (.iconst 0, 1) := by decide +kernel
theorem dL_asks_334 : decode cL_asks 334 = .ok (.istore 5, 2) := by decide +kernel
theorem dL_asks_336 : decode cL_asks 336 = .ok (.iload 5, 2) := by decide +kernel
theorem dL_asks_338 : decode cL_asks 338 = .ok (.iload 4, 2) := by decide +kernel
theorem dL_asks_340 : decode cL_asks 340 = .ok (.if_icmp .ge 23, 3) := by decide +kernel
theorem dL_asks_343 : decode cL_asks 343 = .ok (.ldc2_w 185, 3) := by decide +kernel
theorem dL_asks_346 : decode cL_asks 346 = .ok (.lload_n 1, 1) := by decide +kernel
theorem dL_asks_347 : decode cL_asks 347 = .ok (.lmul, 1) := by decide +kernel
theorem dL_asks_348 : decode cL_asks 348 = .ok (.aload_n 0, 1) := by decide +kernel
theorem dL_asks_349 : decode cL_asks 349 = .ok (.iload 5, 2) := by decide +kernel
theorem dL_asks_351 : decode cL_asks 351 = .ok (.invokestatic 163, 3) := by decide +kernel
theorem dL_asks_354 : decode cL_asks 354 = .ok (.i2l, 1) := by decide +kernel
theorem dL_asks_355 : decode cL_asks 355 = .ok (.ladd, 1) := by decide +kernel
theorem dL_asks_356 : decode cL_asks 356 = .ok (.lstore_n 1, 1) := by decide +kernel
theorem dL_asks_357 : decode cL_asks 357 = .ok (.iinc 5 1, 3) := by decide +kernel
theorem dL_asks_360 : decode cL_asks 360 = .ok (.goto (-24), 3) := by decide +kernel
theorem dL_asks_363 : decode cL_asks 363 = .ok (.iinc 3 1, 3) := by decide +kernel
theorem dL_asks_366 : decode cL_asks 366 = .ok (.goto (-63), 3) := by decide +kernel
theorem dL_asks_369 : decode cL_asks 369 = .ok (.ldc2_w 185, 3) := by decide +kernel
theorem dL_asks_372 : decode cL_asks 372 = .ok (.ldc2_w 185, 3) := by decide +kernel
theorem dL_asks_375 : decode cL_asks 375 = .ok (.ldc2_w 185, 3) := by decide +kernel
theorem dL_asks_378 : decode cL_asks 378 = .ok (.lload_n 1, 1) := by decide +kernel
theorem dL_asks_379 : decode cL_asks 379 = .ok (.lmul, 1) := by decide +kernel
theorem dL_asks_380 : decode cL_asks 380 = .ok (.aload_n 0, 1) := by decide +kernel
theorem dL_asks_381 : decode cL_asks 381 = .ok (.bipush 7, 2) := by decide +kernel
theorem dL_asks_383 : decode cL_asks 383 = .ok (.invokestatic 230, 3) := by decide +kernel
theorem dL_asks_386 : decode cL_asks 386 = .ok (.i2l, 1) := by decide +kernel
theorem dL_asks_387 : decode cL_asks 387 = .ok (.ladd, 1) := by decide +kernel
theorem dL_asks_388 : decode cL_asks 388 = .ok (.lmul, 1) := by decide +kernel
theorem dL_asks_389 : decode cL_asks 389 = .ok (.aload_n 0, 1) := by decide +kernel
theorem dL_asks_390 : decode cL_asks 390 = .ok (.iconst 0, 1) := by decide +kernel
theorem dL_asks_391 : decode cL_asks 391 = .ok (.invokestatic 232, 3) := by decide +kernel
theorem dL_asks_394 : decode cL_asks 394 = .ok (.i2l, 1) := by decide +kernel
theorem dL_asks_395 : decode cL_asks 395 = .ok (.ladd, 1) := by decide +kernel
theorem dL_asks_396 : decode cL_asks 396 = .ok (.lmul, 1) := by decide +kernel
theorem dL_asks_397 : decode cL_asks 397 = .ok (.aload_n 0, 1) := by decide +kernel
theorem dL_asks_398 : decode cL_asks 398 = .ok (.bipush 50, 2) := by decide +kernel
theorem dL_asks_400 : decode cL_asks 400 = .ok (.invokestatic 232, 3) := by decide +kernel
theorem dL_asks_403 : decode cL_asks 403 = .ok (.i2l, 1) := by decide +kernel
theorem dL_asks_404 : decode cL_asks 404 = .ok (.ladd, 1) := by decide +kernel
theorem dL_asks_405 : decode cL_asks 405 = .ok (.lreturn, 1) := by decide +kernel
theorem dL_changes_0 : decode cL_changes 0 = .ok (.iload_n 1, 1) := by decide +kernel
theorem dL_changes_1 : decode cL_changes 1 = .ok (.iconst 4, 1) := by decide +kernel
theorem dL_changes_2 : decode cL_changes 2 = .ok (.ishr, 1) := by decide +kernel
theorem dL_changes_3 : decode cL_changes 3 = .ok (.aload_n 0, 1) := by decide +kernel
theorem dL_changes_4 : decode cL_changes 4 = .ok (.iconst 4, 1) := by decide +kernel
theorem dL_changes_5 : decode cL_changes 5 = .ok (.invokestatic 205, 3) := by decide +kernel
theorem dL_changes_8 : decode cL_changes 8 = .ok (.iconst 1, 1) := by decide +kernel
theorem dL_changes_9 : decode cL_changes 9 = .ok (.iadd, 1) := by decide +kernel
theorem dL_changes_10 : decode cL_changes 10 = .ok (.invokestatic 169, 3) := by decide +kernel
theorem dL_changes_13 : decode cL_changes 13 = .ok (.istore_n 2, 1) := by decide +kernel
theorem dL_changes_14 : decode cL_changes 14 = .ok (.iload_n 1, 1) := by decide +kernel
theorem dL_changes_15 : decode cL_changes 15 = .ok (.bipush 9, 2) := by decide +kernel
theorem dL_changes_17 : decode cL_changes 17 = .ok (.ishr, 1) := by decide +kernel
theorem dL_changes_18 : decode cL_changes 18 = .ok (.aload_n 0, 1) := by decide +kernel
theorem dL_changes_19 : decode cL_changes 19 = .ok (.bipush 6, 2) := by decide +kernel
theorem dL_changes_21 : decode cL_changes 21 = .ok (.invokestatic 205, 3) := by decide +kernel
theorem dL_changes_24 : decode cL_changes 24 = .ok (.iconst 1, 1) := by decide +kernel
theorem dL_changes_25 : decode cL_changes 25 = .ok (.iadd, 1) := by decide +kernel
theorem dL_changes_26 : decode cL_changes 26 = .ok (.invokestatic 169, 3) := by decide +kernel
theorem dL_changes_29 : decode cL_changes 29 = .ok (.istore_n 3, 1) := by decide +kernel
theorem dL_changes_30 : decode cL_changes 30 = .ok (.iload_n 1, 1) := by decide +kernel
theorem dL_changes_31 : decode cL_changes 31 = .ok (.iconst 5, 1) := by decide +kernel
theorem dL_changes_32 : decode cL_changes 32 = .ok (.ishr, 1) := by decide +kernel
theorem dL_changes_33 : decode cL_changes 33 = .ok (.aload_n 0, 1) := by decide +kernel
theorem dL_changes_34 : decode cL_changes 34 = .ok (.bipush 8, 2) := by decide +kernel
theorem dL_changes_36 : decode cL_changes 36 = .ok (.invokestatic 205, 3) := by decide +kernel
theorem dL_changes_39 : decode cL_changes 39 = .ok (.iconst 1, 1) := by decide +kernel
theorem dL_changes_40 : decode cL_changes 40 = .ok (.iadd, 1) := by decide +kernel
theorem dL_changes_41 : decode cL_changes 41 = .ok (.invokestatic 169, 3) := by decide +kernel
theorem dL_changes_44 : decode cL_changes 44 = .ok (.istore 4, 2) := by decide +kernel
theorem dL_changes_46 : decode cL_changes 46 = .ok (.iload_n 1, 1) := by decide +kernel
theorem dL_changes_47 : decode cL_changes 47 = .ok (.bipush 18, 2) := by decide +kernel
theorem dL_changes_49 : decode cL_changes 49 = .ok (.invokestatic 169, 3) := by decide +kernel
theorem dL_changes_52 : decode cL_changes 52 = .ok (.tableswitch 342 0 16 #[84, 105, 135, 148, 169, 169, 169, 198, 213, 234, 234, 255, 270, 285, 300, 321, 321], 84) := by decide +kernel
theorem dL_changes_136 : decode cL_changes 136 = .ok (.aload_n 0, 1) := by decide +kernel
theorem dL_changes_137 : decode cL_changes 137 = .ok (.iload_n 1, 1) := by decide +kernel
theorem dL_changes_138 : decode cL_changes 138 = .ok (.iconst 4, 1) := by decide +kernel
theorem dL_changes_139 : decode cL_changes 139 = .ok (.ishr, 1) := by decide +kernel
theorem dL_changes_140 : decode cL_changes 140 = .ok (.bipush 101, 2) := by decide +kernel
theorem dL_changes_142 : decode cL_changes 142 = .ok (.invokestatic 169, 3) := by decide +kernel
theorem dL_changes_145 : decode cL_changes 145 = .ok (.invokestatic 172, 3) := by decide +kernel
theorem dL_changes_148 : decode cL_changes 148 = .ok (.ifCond .lt 7, 3) := by decide +kernel
theorem dL_changes_151 : decode cL_changes 151 = .ok (.iconst 1, 1) := by decide +kernel
theorem dL_changes_152 : decode cL_changes 152 = .ok (.goto 4, 3) := by decide +kernel
theorem dL_changes_155 : decode cL_changes 155 = .ok (.iconst 0, 1) := by decide +kernel
theorem dL_changes_156 : decode cL_changes 156 = .ok (.ireturn, 1) := by decide +kernel
theorem dL_changes_157 : decode cL_changes 157 = .ok (.aload_n 0, 1) := by decide +kernel
theorem dL_changes_158 : decode cL_changes 158 = .ok (.iload_n 1, 1) := by decide +kernel
theorem dL_changes_159 : decode cL_changes 159 = .ok (.iconst 4, 1) := by decide +kernel
theorem dL_changes_160 : decode cL_changes 160 = .ok (.ishr, 1) := by decide +kernel
theorem dL_changes_161 : decode cL_changes 161 = .ok (.bipush 101, 2) := by decide +kernel
theorem dL_changes_163 : decode cL_changes 163 = .ok (.invokestatic 169, 3) := by decide +kernel
theorem dL_changes_166 : decode cL_changes 166 = .ok (.iload_n 1, 1) := by decide +kernel
theorem dL_changes_167 : decode cL_changes 167 = .ok (.bipush 7, 2) := by decide +kernel
theorem dL_changes_169 : decode cL_changes 169 = .ok (.ishr, 1) := by decide +kernel
theorem dL_changes_170 : decode cL_changes 170 = .ok (.bipush 11, 2) := by decide +kernel
theorem dL_changes_172 : decode cL_changes 172 = .ok (.invokestatic 169, 3) := by decide +kernel
theorem dL_changes_175 : decode cL_changes 175 = .ok (.invokestatic 174, 3) := by decide +kernel
theorem dL_changes_178 : decode cL_changes 178 = .ok (.ifCond .lt 7, 3) := by decide +kernel
theorem dL_changes_181 : decode cL_changes 181 = .ok (.iconst 1, 1) := by decide +kernel
theorem dL_changes_182 : decode cL_changes 182 = .ok (.goto 4, 3) := by decide +kernel
theorem dL_changes_185 : decode cL_changes 185 = .ok (.iconst 0, 1) := by decide +kernel
theorem dL_changes_186 : decode cL_changes 186 = .ok (.ireturn, 1) := by decide +kernel
theorem dL_changes_187 : decode cL_changes 187 = .ok (.aload_n 0, 1) := by decide +kernel
theorem dL_changes_188 : decode cL_changes 188 = .ok (.invokestatic 177, 3) := by decide +kernel
theorem dL_changes_191 : decode cL_changes 191 = .ok (.ifCond .lt 7, 3) := by decide +kernel
theorem dL_changes_194 : decode cL_changes 194 = .ok (.iconst 1, 1) := by decide +kernel
theorem dL_changes_195 : decode cL_changes 195 = .ok (.goto 4, 3) := by decide +kernel
theorem dL_changes_198 : decode cL_changes 198 = .ok (.iconst 0, 1) := by decide +kernel
theorem dL_changes_199 : decode cL_changes 199 = .ok (.ireturn, 1) := by decide +kernel
theorem dL_changes_200 : decode cL_changes 200 = .ok (.aload_n 0, 1) := by decide +kernel
theorem dL_changes_201 : decode cL_changes 201 = .ok (.iload_n 1, 1) := by decide +kernel
theorem dL_changes_202 : decode cL_changes 202 = .ok (.iconst 4, 1) := by decide +kernel
theorem dL_changes_203 : decode cL_changes 203 = .ok (.ishr, 1) := by decide +kernel
theorem dL_changes_204 : decode cL_changes 204 = .ok (.bipush 11, 2) := by decide +kernel
theorem dL_changes_206 : decode cL_changes 206 = .ok (.invokestatic 169, 3) := by decide +kernel
theorem dL_changes_209 : decode cL_changes 209 = .ok (.invokestatic 181, 3) := by decide +kernel
theorem dL_changes_212 : decode cL_changes 212 = .ok (.ifCond .lt 7, 3) := by decide +kernel
theorem dL_changes_215 : decode cL_changes 215 = .ok (.iconst 1, 1) := by decide +kernel
theorem dL_changes_216 : decode cL_changes 216 = .ok (.goto 4, 3) := by decide +kernel
theorem dL_changes_219 : decode cL_changes 219 = .ok (.iconst 0, 1) := by decide +kernel
theorem dL_changes_220 : decode cL_changes 220 = .ok (.ireturn, 1) := by decide +kernel
theorem dL_changes_221 : decode cL_changes 221 = .ok (.aload_n 0, 1) := by decide +kernel
theorem dL_changes_222 : decode cL_changes 222 = .ok (.iload_n 2, 1) := by decide +kernel
theorem dL_changes_223 : decode cL_changes 223 = .ok (.iload_n 1, 1) := by decide +kernel
theorem dL_changes_224 : decode cL_changes 224 = .ok (.bipush 7, 2) := by decide +kernel
theorem dL_changes_226 : decode cL_changes 226 = .ok (.ishr, 1) := by decide +kernel
theorem dL_changes_227 : decode cL_changes 227 = .ok (.aload_n 0, 1) := by decide +kernel
theorem dL_changes_228 : decode cL_changes 228 = .ok (.iconst 5, 1) := by decide +kernel
theorem dL_changes_229 : decode cL_changes 229 = .ok (.invokestatic 205, 3) := by decide +kernel
theorem dL_changes_232 : decode cL_changes 232 = .ok (.iconst 1, 1) := by decide +kernel
theorem dL_changes_233 : decode cL_changes 233 = .ok (.iadd, 1) := by decide +kernel
theorem dL_changes_234 : decode cL_changes 234 = .ok (.invokestatic 169, 3) := by decide +kernel
theorem dL_changes_237 : decode cL_changes 237 = .ok (.iload_n 3, 1) := by decide +kernel
theorem dL_changes_238 : decode cL_changes 238 = .ok (.invokestatic 234, 3) := by decide +kernel
theorem dL_changes_241 : decode cL_changes 241 = .ok (.ifCond .lt 7, 3) := by decide +kernel
theorem dL_changes_244 : decode cL_changes 244 = .ok (.iconst 1, 1) := by decide +kernel
theorem dL_changes_245 : decode cL_changes 245 = .ok (.goto 4, 3) := by decide +kernel
theorem dL_changes_248 : decode cL_changes 248 = .ok (.iconst 0, 1) := by decide +kernel
theorem dL_changes_249 : decode cL_changes 249 = .ok (.ireturn, 1) := by decide +kernel
theorem dL_changes_250 : decode cL_changes 250 = .ok (.aload_n 0, 1) := by decide +kernel
theorem dL_changes_251 : decode cL_changes 251 = .ok (.iload_n 2, 1) := by decide +kernel
theorem dL_changes_252 : decode cL_changes 252 = .ok (.iload_n 3, 1) := by decide +kernel
theorem dL_changes_253 : decode cL_changes 253 = .ok (.invokestatic 237, 3) := by decide +kernel
theorem dL_changes_256 : decode cL_changes 256 = .ok (.ifCond .lt 7, 3) := by decide +kernel
theorem dL_changes_259 : decode cL_changes 259 = .ok (.iconst 1, 1) := by decide +kernel
theorem dL_changes_260 : decode cL_changes 260 = .ok (.goto 4, 3) := by decide +kernel
theorem dL_changes_263 : decode cL_changes 263 = .ok (.iconst 0, 1) := by decide +kernel
theorem dL_changes_264 : decode cL_changes 264 = .ok (.ireturn, 1) := by decide +kernel
theorem dL_changes_265 : decode cL_changes 265 = .ok (.aload_n 0, 1) := by decide +kernel
theorem dL_changes_266 : decode cL_changes 266 = .ok (.iload_n 1, 1) := by decide +kernel
theorem dL_changes_267 : decode cL_changes 267 = .ok (.iconst 4, 1) := by decide +kernel
theorem dL_changes_268 : decode cL_changes 268 = .ok (.ishr, 1) := by decide +kernel
theorem dL_changes_269 : decode cL_changes 269 = .ok (.bipush 101, 2) := by decide +kernel
theorem dL_changes_271 : decode cL_changes 271 = .ok (.invokestatic 169, 3) := by decide +kernel
theorem dL_changes_274 : decode cL_changes 274 = .ok (.invokestatic 179, 3) := by decide +kernel
theorem dL_changes_277 : decode cL_changes 277 = .ok (.ifCond .lt 7, 3) := by decide +kernel
theorem dL_changes_280 : decode cL_changes 280 = .ok (.iconst 1, 1) := by decide +kernel
theorem dL_changes_281 : decode cL_changes 281 = .ok (.goto 4, 3) := by decide +kernel
theorem dL_changes_284 : decode cL_changes 284 = .ok (.iconst 0, 1) := by decide +kernel
theorem dL_changes_285 : decode cL_changes 285 = .ok (.ireturn, 1) := by decide +kernel
theorem dL_changes_286 : decode cL_changes 286 = .ok (.aload_n 0, 1) := by decide +kernel
theorem dL_changes_287 : decode cL_changes 287 = .ok (.iload_n 1, 1) := by decide +kernel
theorem dL_changes_288 : decode cL_changes 288 = .ok (.iconst 4, 1) := by decide +kernel
theorem dL_changes_289 : decode cL_changes 289 = .ok (.ishr, 1) := by decide +kernel
theorem dL_changes_290 : decode cL_changes 290 = .ok (.bipush 101, 2) := by decide +kernel
theorem dL_changes_292 : decode cL_changes 292 = .ok (.invokestatic 169, 3) := by decide +kernel
theorem dL_changes_295 : decode cL_changes 295 = .ok (.invokestatic 239, 3) := by decide +kernel
theorem dL_changes_298 : decode cL_changes 298 = .ok (.ifCond .lt 7, 3) := by decide +kernel
theorem dL_changes_301 : decode cL_changes 301 = .ok (.iconst 1, 1) := by decide +kernel
theorem dL_changes_302 : decode cL_changes 302 = .ok (.goto 4, 3) := by decide +kernel
theorem dL_changes_305 : decode cL_changes 305 = .ok (.iconst 0, 1) := by decide +kernel
theorem dL_changes_306 : decode cL_changes 306 = .ok (.ireturn, 1) := by decide +kernel
theorem dL_changes_307 : decode cL_changes 307 = .ok (.aload_n 0, 1) := by decide +kernel
theorem dL_changes_308 : decode cL_changes 308 = .ok (.iload 4, 2) := by decide +kernel
theorem dL_changes_310 : decode cL_changes 310 = .ok (.invokestatic 241, 3) := by decide +kernel
theorem dL_changes_313 : decode cL_changes 313 = .ok (.ifCond .lt 7, 3) := by decide +kernel
theorem dL_changes_316 : decode cL_changes 316 = .ok (.iconst 1, 1) := by decide +kernel
theorem dL_changes_317 : decode cL_changes 317 = .ok (.goto 4, 3) := by decide +kernel
theorem dL_changes_320 : decode cL_changes 320 = .ok (.iconst 0, 1) := by decide +kernel
theorem dL_changes_321 : decode cL_changes 321 = .ok (.ireturn, 1) := by decide +kernel
theorem dL_changes_322 : decode cL_changes 322 = .ok (.aload_n 0, 1) := by decide +kernel
theorem dL_changes_323 : decode cL_changes 323 = .ok (.iload 4, 2) := by decide +kernel
theorem dL_changes_325 : decode cL_changes 325 = .ok (.invokestatic 243, 3) := by decide +kernel
theorem dL_changes_328 : decode cL_changes 328 = .ok (.ifCond .lt 7, 3) := by decide +kernel
theorem dL_changes_331 : decode cL_changes 331 = .ok (.iconst 1, 1) := by decide +kernel
theorem dL_changes_332 : decode cL_changes 332 = .ok (.goto 4, 3) := by decide +kernel
theorem dL_changes_335 : decode cL_changes 335 = .ok (.iconst 0, 1) := by decide +kernel
theorem dL_changes_336 : decode cL_changes 336 = .ok (.ireturn, 1) := by decide +kernel
theorem dL_changes_337 : decode cL_changes 337 = .ok (.aload_n 0, 1) := by decide +kernel
theorem dL_changes_338 : decode cL_changes 338 = .ok (.iload 4, 2) := by decide +kernel
theorem dL_changes_340 : decode cL_changes 340 = .ok (.invokestatic 245, 3) := by decide +kernel
theorem dL_changes_343 : decode cL_changes 343 = .ok (.ifCond .lt 7, 3) := by decide +kernel
theorem dL_changes_346 : decode cL_changes 346 = .ok (.iconst 1, 1) := by decide +kernel
theorem dL_changes_347 : decode cL_changes 347 = .ok (.goto 4, 3) := by decide +kernel
theorem dL_changes_350 : decode cL_changes 350 = .ok (.iconst 0, 1) := by decide +kernel
theorem dL_changes_351 : decode cL_changes 351 = .ok (.ireturn, 1) := by decide +kernel
theorem dL_changes_352 : decode cL_changes 352 = .ok (.aload_n 0, 1) := by decide +kernel
theorem dL_changes_353 : decode cL_changes 353 = .ok (.iload_n 1, 1) := by decide +kernel
theorem dL_changes_354 : decode cL_changes 354 = .ok (.iconst 4, 1) := by decide +kernel
theorem dL_changes_355 : decode cL_changes 355 = .ok (.ishr, 1) := by decide +kernel
theorem dL_changes_356 : decode cL_changes 356 = .ok (.bipush 102, 2) := by decide +kernel
theorem dL_changes_358 : decode cL_changes 358 = .ok (.invokestatic 169, 3) := by decide +kernel
theorem dL_changes_361 : decode cL_changes 361 = .ok (.invokestatic 247, 3) := by decide +kernel
theorem dL_changes_364 : decode cL_changes 364 = .ok (.ifCond .lt 7, 3) := by decide +kernel
theorem dL_changes_367 : decode cL_changes 367 = .ok (.iconst 1, 1) := by decide +kernel
theorem dL_changes_368 : decode cL_changes 368 = .ok (.goto 4, 3) := by decide +kernel
theorem dL_changes_371 : decode cL_changes 371 = .ok (.iconst 0, 1) := by decide +kernel
theorem dL_changes_372 : decode cL_changes 372 = .ok (.ireturn, 1) := by decide +kernel
theorem dL_changes_373 : decode cL_changes 373 = .ok (.aload_n 0, 1) := by decide +kernel
theorem dL_changes_374 : decode cL_changes 374 = .ok (.iload_n 1, 1) := by decide +kernel
theorem dL_changes_375 : decode cL_changes 375 = .ok (.iconst 4, 1) := by decide +kernel
theorem dL_changes_376 : decode cL_changes 376 = .ok (.ishr, 1) := by decide +kernel
theorem dL_changes_377 : decode cL_changes 377 = .ok (.bipush 50, 2) := by decide +kernel
theorem dL_changes_379 : decode cL_changes 379 = .ok (.invokestatic 169, 3) := by decide +kernel
theorem dL_changes_382 : decode cL_changes 382 = .ok (.invokestatic 183, 3) := by decide +kernel
theorem dL_changes_385 : decode cL_changes 385 = .ok (.ifCond .lt 7, 3) := by decide +kernel
theorem dL_changes_388 : decode cL_changes 388 = .ok (.iconst 1, 1) := by decide +kernel
theorem dL_changes_389 : decode cL_changes 389 = .ok (.goto 4, 3) := by decide +kernel
theorem dL_changes_392 : decode cL_changes 392 = .ok (.iconst 0, 1) := by decide +kernel
theorem dL_changes_393 : decode cL_changes 393 = .ok (.ireturn, 1) := by decide +kernel
theorem dL_changes_394 : decode cL_changes 394 = .ok (.aload_n 0, 1) := by decide +kernel
theorem dL_changes_395 : decode cL_changes 395 = .ok (.iload_n 1, 1) := by decide +kernel
theorem dL_changes_396 : decode cL_changes 396 = .ok (.bipush 6, 2) := by decide +kernel
theorem dL_changes_398 : decode cL_changes 398 = .ok (.ishr, 1) := by decide +kernel
theorem dL_changes_399 : decode cL_changes 399 = .ok (.iconst 1, 1) := by decide +kernel
theorem dL_changes_400 : decode cL_changes 400 = .ok (.iand, 1) := by decide +kernel
theorem dL_changes_401 : decode cL_changes 401 = .ok (.ifCond .ne 49, 3) := by decide +kernel
theorem dL_changes_404 : decode cL_changes 404 = .ok (.new 249, 3) := by decide +kernel
theorem dL_changes_407 : decode cL_changes 407 = .ok (.dup, 1) := by decide +kernel
theorem dL_changes_408 : decode cL_changes 408 = .ok (.invokespecial 251, 3) := by decide +kernel
theorem dL_changes_411 : decode cL_changes 411 = .ok (.ldc 252, 2) := by decide +kernel
theorem dL_changes_413 : decode cL_changes 413 = .ok (.invokevirtual 254, 3) := by decide +kernel
theorem dL_changes_416 : decode cL_changes 416 = .ok (.iload_n 1, 1) := by decide +kernel
theorem dL_changes_417 : decode cL_changes 417 = .ok (.iconst 3, 1) := by decide +kernel
theorem dL_changes_418 : decode cL_changes 418 = .ok (.ishr, 1) := by decide +kernel
theorem dL_changes_419 : decode cL_changes 419 = .ok (.bipush 12, 2) := by decide +kernel
theorem dL_changes_421 : decode cL_changes 421 = .ok (.invokestatic 169, 3) := by decide +kernel
theorem dL_changes_424 : decode cL_changes 424 = .ok (.invokevirtual 257, 3) := by decide +kernel
theorem dL_changes_427 : decode cL_changes 427 = .ok (.ldc_w 260, 3) := by decide +kernel
theorem dL_changes_430 : decode cL_changes 430 = .ok (.invokevirtual 254, 3) := by decide +kernel
theorem dL_changes_433 : decode cL_changes 433 = .ok (.iload_n 1, 1) := by decide +kernel
theorem dL_changes_434 : decode cL_changes 434 = .ok (.iconst 5, 1) := by decide +kernel
theorem dL_changes_435 : decode cL_changes 435 = .ok (.ishr, 1) := by decide +kernel
theorem dL_changes_436 : decode cL_changes 436 = .ok (.bipush 100, 2) := by decide +kernel
theorem dL_changes_438 : decode cL_changes 438 = .ok (.invokestatic 169, 3) := by decide +kernel
theorem dL_changes_441 : decode cL_changes 441 = .ok (.invokevirtual 257, 3) := by decide +kernel
theorem dL_changes_444 : decode cL_changes 444 = .ok (.invokevirtual 262, 3) := by decide +kernel
theorem dL_changes_447 : decode cL_changes 447 = .ok (.goto 80, 3) := by decide +kernel
theorem dL_changes_450 : decode cL_changes 450 = .ok (.new 249, 3) := by decide +kernel
theorem dL_changes_453 : decode cL_changes 453 = .ok (.dup, 1) := by decide +kernel
theorem dL_changes_454 : decode cL_changes 454 = .ok (.invokespecial 251, 3) := by decide +kernel
theorem dL_changes_457 : decode cL_changes 457 = .ok (.ldc_w 266, 3) := by decide +kernel
theorem dL_changes_460 : decode cL_changes 460 = .ok (.invokevirtual 254, 3) := by decide +kernel
theorem dL_changes_463 : decode cL_changes 463 = .ok (.iload_n 1, 1) := by decide +kernel
theorem dL_changes_464 : decode cL_changes 464 = .ok (.iconst 3, 1) := by decide +kernel
theorem dL_changes_465 : decode cL_changes 465 = .ok (.ishr, 1) := by decide +kernel
theorem dL_changes_466 : decode cL_changes 466 = .ok (.bipush 7, 2) := by decide +kernel
theorem dL_changes_468 : decode cL_changes 468 = .ok (.invokestatic 169, 3) := by decide +kernel
theorem dL_changes_471 : decode cL_changes 471 = .ok (.invokevirtual 257, 3) := by decide +kernel
theorem dL_changes_474 : decode cL_changes 474 = .ok (.ldc_w 268, 3) := by decide +kernel
theorem dL_changes_477 : decode cL_changes 477 = .ok (.invokevirtual 254, 3) := by decide +kernel
theorem dL_changes_480 : decode cL_changes 480 = .ok (.iload_n 1, 1) := by decide +kernel
theorem dL_changes_481 : decode cL_changes 481 = .ok (.iconst 5, 1) := by decide +kernel
theorem dL_changes_482 : decode cL_changes 482 = .ok (.ishr, 1) := by decide +kernel
theorem dL_changes_483 : decode cL_changes 483 = .ok (.bipush 7, 2) := by decide +kernel
theorem dL_changes_485 : decode cL_changes 485 = .ok (.invokestatic 169, 3) := by decide +kernel
theorem dL_changes_488 : decode cL_changes 488 = .ok (.invokevirtual 257, 3) := by decide +kernel
theorem dL_changes_491 : decode cL_changes 491 = .ok (.ldc_w 270, 3) := by decide +kernel
theorem dL_changes_494 : decode cL_changes 494 = .ok (.invokevirtual 254, 3) := by decide +kernel
theorem dL_changes_497 : decode cL_changes 497 = .ok (.iload_n 1, 1) := by decide +kernel
theorem dL_changes_498 : decode cL_changes 498 = .ok (.iconst 4, 1) := by decide +kernel
theorem dL_changes_499 : decode cL_changes 499 = .ok (.ishr, 1) := by decide +kernel
theorem dL_changes_500 : decode cL_changes 500 = .ok (.iconst 4, 1) := by decide +kernel
theorem dL_changes_501 : decode cL_changes 501 = .ok (.invokestatic 169, 3) := by decide +kernel
theorem dL_changes_504 : decode cL_changes 504 = .ok (.invokevirtual 257, 3) := by decide +kernel
theorem dL_changes_507 : decode cL_changes 507 = .ok (.ldc_w 272, 3) := by decide +kernel
theorem dL_changes_510 : decode cL_changes 510 = .ok (.invokevirtual 254, 3) := by decide +kernel
theorem dL_changes_513 : decode cL_changes 513 = .ok (.iload_n 1, 1) := by decide +kernel
theorem dL_changes_514 : decode cL_changes 514 = .ok (.bipush 7, 2) := by decide +kernel
theorem dL_changes_516 : decode cL_changes 516 = .ok (.ishr, 1) := by decide +kernel
theorem dL_changes_517 : decode cL_changes 517 = .ok (.iconst 3, 1) := by decide +kernel
theorem dL_changes_518 : decode cL_changes 518 = .ok (.invokestatic 169, 3) := by decide +kernel
theorem dL_changes_521 : decode cL_changes 521 = .ok (.invokevirtual 257, 3) := by decide +kernel
theorem dL_changes_524 : decode cL_changes 524 = .ok (.invokevirtual 262, 3) := by decide +kernel
theorem dL_changes_527 : decode cL_changes 527 = .ok (.invokestatic 274, 3) := by decide +kernel
theorem dL_changes_530 : decode cL_changes 530 = .ok (.ifCond .lt 7, 3) := by decide +kernel
theorem dL_changes_533 : decode cL_changes 533 = .ok (.iconst 1, 1) := by decide +kernel
theorem dL_changes_534 : decode cL_changes 534 = .ok (.goto 4, 3) := by decide +kernel
theorem dL_changes_537 : decode cL_changes 537 = .ok (.iconst 0, 1) := by decide +kernel
theorem dL_changes_538 : decode cL_changes 538 = .ok (.ireturn, 1) := by decide +kernel
theorem dL_refused_0 : decode cL_refused 0 = .ok (.aload_n 0, 1) := by decide +kernel
theorem dL_refused_1 : decode cL_refused 1 = .ok (.invokestatic 278, 3) := by decide +kernel
theorem dL_refused_4 : decode cL_refused 4 = .ok (.lstore_n 1, 1) := by decide +kernel
theorem dL_refused_5 : decode cL_refused 5 = .ok (.aload_n 0, 1) := by decide +kernel
theorem dL_refused_6 : decode cL_refused 6 = .ok (.iconst 4, 1) := by decide +kernel
theorem dL_refused_7 : decode cL_refused 7 = .ok (.invokestatic 205, 3) := by decide +kernel
theorem dL_refused_10 : decode cL_refused 10 = .ok (.istore_n 3, 1) := by decide +kernel
theorem dL_refused_11 : decode cL_refused 11 = .ok (.aload_n 0, 1) := by decide +kernel
theorem dL_refused_12 : decode cL_refused 12 = .ok (.iconst 5, 1) := by decide +kernel
theorem dL_refused_13 : decode cL_refused 13 = .ok (.invokestatic 205, 3) := by decide +kernel
theorem dL_refused_16 : decode cL_refused 16 = .ok (.istore 4, 2) := by decide +kernel
theorem dL_refused_18 : decode cL_refused 18 = .ok (.aload_n 0, 1) := by decide +kernel
theorem dL_refused_19 : decode cL_refused 19 = .ok (.bipush 6, 2) := by decide +kernel
theorem dL_refused_21 : decode cL_refused 21 = .ok (.invokestatic 205, 3) := by decide +kernel
theorem dL_refused_24 : decode cL_refused 24 = .ok (.istore 5, 2) := by decide +kernel
theorem dL_refused_26 : decode cL_refused 26 = .ok (.aload_n 0, 1) := by decide +kernel
theorem dL_refused_27 : decode cL_refused 27 = .ok (.bipush 8, 2) := by decide +kernel
theorem dL_refused_29 : decode cL_refused 29 = .ok (.invokestatic 205, 3) := by decide +kernel
theorem dL_refused_32 : decode cL_refused 32 = .ok (.istore 6, 2) := by decide +kernel
theorem dL_refused_34 : decode cL_refused 34 = .ok (.aload_n 0, 1) := by decide +kernel
theorem dL_refused_35 : decode cL_refused 35 = .ok (.iconst (-1), 1) := by decide +kernel
theorem dL_refused_36 : decode cL_refused 36 = .ok (.invokestatic 172, 3) := by decide +kernel
theorem dL_refused_39 : decode cL_refused 39 = .ok (.sipush (-1001), 3) := by decide +kernel
theorem dL_refused_42 : decode cL_refused 42 = .ok (.if_icmp .ne 403, 3) := by decide +kernel
theorem dL_refused_45 : decode cL_refused 45 = .ok (.aload_n 0, 1) := by decide +kernel
theorem dL_refused_46 : decode cL_refused 46 = .ok (.iconst 1, 1) := by decide +kernel
theorem dL_refused_47 : decode cL_refused 47 = .ok (.iconst 0, 1) := by decide +kernel
theorem dL_refused_48 : decode cL_refused 48 = .ok (.iconst 0, 1) := by decide +kernel
theorem dL_refused_49 : decode cL_refused 49 = .ok (.invokestatic 282, 3) := by decide +kernel
theorem dL_refused_52 : decode cL_refused 52 = .ok (.ifCond .eq 393, 3) := by decide +kernel
theorem dL_refused_55 : decode cL_refused 55 = .ok (.aload_n 0, 1) := by decide +kernel
theorem dL_refused_56 : decode cL_refused 56 = .ok (.bipush 100, 2) := by decide +kernel
theorem dL_refused_58 : decode cL_refused 58 = .ok (.invokestatic 172, 3) := by decide +kernel
theorem dL_refused_61 : decode cL_refused 61 = .ok (.sipush (-1001), 3) := by decide +kernel
theorem dL_refused_64 : decode cL_refused 64 = .ok (.if_icmp .ne 381, 3) := by decide +kernel
theorem dL_refused_67 : decode cL_refused 67 = .ok (.aload_n 0, 1) := by decide +kernel
theorem dL_refused_68 : decode cL_refused 68 = .ok (.aload_n 0, 1) := by decide +kernel
theorem dL_refused_69 : decode cL_refused 69 = .ok (.iconst 1, 1) := by decide +kernel
theorem dL_refused_70 : decode cL_refused 70 = .ok (.invokestatic 207, 3) := by decide +kernel
theorem dL_refused_73 : decode cL_refused 73 = .ok (.invokestatic 172, 3) := by decide +kernel
theorem dL_refused_76 : decode cL_refused 76 = .ok (.sipush (-1001), 3) := by decide +kernel
theorem dL_refused_79 : decode cL_refused 79 = .ok (.if_icmp .ne 366, 3) := by decide +kernel
theorem dL_refused_82 : decode cL_refused 82 = .ok (.aload_n 0, 1) := by decide +kernel
theorem dL_refused_83 : decode cL_refused 83 = .ok (.iconst 4, 1) := by decide +kernel
theorem dL_refused_84 : decode cL_refused 84 = .ok (.iconst 1, 1) := by decide +kernel
theorem dL_refused_85 : decode cL_refused 85 = .ok (.iconst 0, 1) := by decide +kernel
theorem dL_refused_86 : decode cL_refused 86 = .ok (.invokestatic 282, 3) := by decide +kernel
theorem dL_refused_89 : decode cL_refused 89 = .ok (.ifCond .eq 356, 3) := by decide +kernel
theorem dL_refused_92 : decode cL_refused 92 = .ok (.aload_n 0, 1) := by decide +kernel
theorem dL_refused_93 : decode cL_refused 93 = .ok (.bipush 100, 2) := by decide +kernel
theorem dL_refused_95 : decode cL_refused 95 = .ok (.iconst 1, 1) := by decide +kernel
theorem dL_refused_96 : decode cL_refused 96 = .ok (.invokestatic 174, 3) := by decide +kernel
theorem dL_refused_99 : decode cL_refused 99 = .ok (.sipush (-1001), 3) := by decide +kernel
theorem dL_refused_102 : decode cL_refused 102 = .ok (.if_icmp .ne 343, 3) := by decide +kernel
theorem dL_refused_105 : decode cL_refused 105 = .ok (.aload_n 0, 1) := by decide +kernel
theorem dL_refused_106 : decode cL_refused 106 = .ok (.iconst 1, 1) := by decide +kernel
theorem dL_refused_107 : decode cL_refused 107 = .ok (.iconst 0, 1) := by decide +kernel
theorem dL_refused_108 : decode cL_refused 108 = .ok (.iconst 0, 1) := by decide +kernel
theorem dL_refused_109 : decode cL_refused 109 = .ok (.invokestatic 282, 3) := by decide +kernel
theorem dL_refused_112 : decode cL_refused 112 = .ok (.ifCond .eq 333, 3) := by decide +kernel
theorem dL_refused_115 : decode cL_refused 115 = .ok (.aload_n 0, 1) := by decide +kernel
theorem dL_refused_116 : decode cL_refused 116 = .ok (.iconst 0, 1) := by decide +kernel
theorem dL_refused_117 : decode cL_refused 117 = .ok (.iconst 0, 1) := by decide +kernel
theorem dL_refused_118 : decode cL_refused 118 = .ok (.invokestatic 174, 3) := by decide +kernel
theorem dL_refused_121 : decode cL_refused 121 = .ok (.sipush (-1001), 3) := by decide +kernel
theorem dL_refused_124 : decode cL_refused 124 = .ok (.if_icmp .ne 321, 3) := by decide +kernel
theorem dL_refused_127 : decode cL_refused 127 = .ok (.aload_n 0, 1) := by decide +kernel
theorem dL_refused_128 : decode cL_refused 128 = .ok (.iconst 0, 1) := by decide +kernel
theorem dL_refused_129 : decode cL_refused 129 = .ok (.bipush 10, 2) := by decide +kernel
theorem dL_refused_131 : decode cL_refused 131 = .ok (.invokestatic 174, 3) := by decide +kernel
theorem dL_refused_134 : decode cL_refused 134 = .ok (.sipush (-1001), 3) := by decide +kernel
theorem dL_refused_137 : decode cL_refused 137 = .ok (.if_icmp .ne 308, 3) := by decide +kernel
theorem dL_refused_140 : decode cL_refused 140 = .ok (.aload_n 0, 1) := by decide +kernel
theorem dL_refused_141 : decode cL_refused 141 = .ok (.bipush 10, 2) := by decide +kernel
theorem dL_refused_143 : decode cL_refused 143 = .ok (.invokestatic 181, 3) := by decide +kernel
theorem dL_refused_146 : decode cL_refused 146 = .ok (.sipush (-1001), 3) := by decide +kernel
theorem dL_refused_149 : decode cL_refused 149 = .ok (.if_icmp .ne 296, 3) := by decide +kernel
theorem dL_refused_152 : decode cL_refused 152 = .ok (.aload_n 0, 1) := by decide +kernel
theorem dL_refused_153 : decode cL_refused 153 = .ok (.iconst (-1), 1) := by decide +kernel
theorem dL_refused_154 : decode cL_refused 154 = .ok (.invokestatic 181, 3) := by decide +kernel
theorem dL_refused_157 : decode cL_refused 157 = .ok (.sipush (-1001), 3) := by decide +kernel
theorem dL_refused_160 : decode cL_refused 160 = .ok (.if_icmp .ne 285, 3) := by decide +kernel
theorem dL_refused_163 : decode cL_refused 163 = .ok (.aload_n 0, 1) := by decide +kernel
theorem dL_refused_164 : decode cL_refused 164 = .ok (.iload_n 3, 1) := by decide +kernel
theorem dL_refused_165 : decode cL_refused 165 = .ok (.iload 4, 2) := by decide +kernel
theorem dL_refused_167 : decode cL_refused 167 = .ok (.iload 5, 2) := by decide +kernel
theorem dL_refused_169 : decode cL_refused 169 = .ok (.invokestatic 234, 3) := by decide +kernel
theorem dL_refused_172 : decode cL_refused 172 = .ok (.sipush (-1001), 3) := by decide +kernel
theorem dL_refused_175 : decode cL_refused 175 = .ok (.if_icmp .ne 270, 3) := by decide +kernel
theorem dL_refused_178 : decode cL_refused 178 = .ok (.aload_n 0, 1) := by decide +kernel
theorem dL_refused_179 : decode cL_refused 179 = .ok (.iconst 3, 1) := by decide +kernel
theorem dL_refused_180 : decode cL_refused 180 = .ok (.iload_n 3, 1) := by decide +kernel
theorem dL_refused_181 : decode cL_refused 181 = .ok (.iconst 0, 1) := by decide +kernel
theorem dL_refused_182 : decode cL_refused 182 = .ok (.invokestatic 282, 3) := by decide +kernel
theorem dL_refused_185 : decode cL_refused 185 = .ok (.ifCond .eq 260, 3) := by decide +kernel
theorem dL_refused_188 : decode cL_refused 188 = .ok (.aload_n 0, 1) := by decide +kernel
theorem dL_refused_189 : decode cL_refused 189 = .ok (.iconst 0, 1) := by decide +kernel
theorem dL_refused_190 : decode cL_refused 190 = .ok (.iload 4, 2) := by decide +kernel
theorem dL_refused_192 : decode cL_refused 192 = .ok (.iconst (-1), 1) := by decide +kernel
theorem dL_refused_193 : decode cL_refused 193 = .ok (.invokestatic 234, 3) := by decide +kernel
theorem dL_refused_196 : decode cL_refused 196 = .ok (.sipush (-1001), 3) := by decide +kernel
theorem dL_refused_199 : decode cL_refused 199 = .ok (.if_icmp .ne 246, 3) := by decide +kernel
theorem dL_refused_202 : decode cL_refused 202 = .ok (.aload_n 0, 1) := by decide +kernel
theorem dL_refused_203 : decode cL_refused 203 = .ok (.iconst 3, 1) := by decide +kernel
theorem dL_refused_204 : decode cL_refused 204 = .ok (.iload 4, 2) := by decide +kernel
theorem dL_refused_206 : decode cL_refused 206 = .ok (.iconst 0, 1) := by decide +kernel
theorem dL_refused_207 : decode cL_refused 207 = .ok (.invokestatic 282, 3) := by decide +kernel
theorem dL_refused_210 : decode cL_refused 210 = .ok (.ifCond .eq 235, 3) := by decide +kernel
theorem dL_refused_213 : decode cL_refused 213 = .ok (.aload_n 0, 1) := by decide +kernel
theorem dL_refused_214 : decode cL_refused 214 = .ok (.iconst 0, 1) := by decide +kernel
theorem dL_refused_215 : decode cL_refused 215 = .ok (.iconst 0, 1) := by decide +kernel
theorem dL_refused_216 : decode cL_refused 216 = .ok (.iload 5, 2) := by decide +kernel
theorem dL_refused_218 : decode cL_refused 218 = .ok (.invokestatic 234, 3) := by decide +kernel
theorem dL_refused_221 : decode cL_refused 221 = .ok (.sipush (-1001), 3) := by decide +kernel
theorem dL_refused_224 : decode cL_refused 224 = .ok (.if_icmp .ne 221, 3) := by decide +kernel
theorem dL_refused_227 : decode cL_refused 227 = .ok (.aload_n 0, 1) := by decide +kernel
theorem dL_refused_228 : decode cL_refused 228 = .ok (.iconst 3, 1) := by decide +kernel
theorem dL_refused_229 : decode cL_refused 229 = .ok (.iload 5, 2) := by decide +kernel
theorem dL_refused_231 : decode cL_refused 231 = .ok (.iconst 0, 1) := by decide +kernel
theorem dL_refused_232 : decode cL_refused 232 = .ok (.invokestatic 282, 3) := by decide +kernel
theorem dL_refused_235 : decode cL_refused 235 = .ok (.ifCond .eq 210, 3) := by decide +kernel
theorem dL_refused_238 : decode cL_refused 238 = .ok (.aload_n 0, 1) := by decide +kernel
theorem dL_refused_239 : decode cL_refused 239 = .ok (.iconst (-1), 1) := by decide +kernel
theorem dL_refused_240 : decode cL_refused 240 = .ok (.iconst 0, 1) := by decide +kernel
theorem dL_refused_241 : decode cL_refused 241 = .ok (.invokestatic 237, 3) := by decide +kernel
theorem dL_refused_244 : decode cL_refused 244 = .ok (.sipush (-1001), 3) := by decide +kernel
theorem dL_refused_247 : decode cL_refused 247 = .ok (.if_icmp .ne 198, 3) := by decide +kernel
theorem dL_refused_250 : decode cL_refused 250 = .ok (.aload_n 0, 1) := by decide +kernel
theorem dL_refused_251 : decode cL_refused 251 = .ok (.iconst 3, 1) := by decide +kernel
theorem dL_refused_252 : decode cL_refused 252 = .ok (.iconst (-1), 1) := by decide +kernel
theorem dL_refused_253 : decode cL_refused 253 = .ok (.iconst 0, 1) := by decide +kernel
theorem dL_refused_254 : decode cL_refused 254 = .ok (.invokestatic 282, 3) := by decide +kernel
theorem dL_refused_257 : decode cL_refused 257 = .ok (.ifCond .eq 188, 3) := by decide +kernel
theorem dL_refused_260 : decode cL_refused 260 = .ok (.aload_n 0, 1) := by decide +kernel
theorem dL_refused_261 : decode cL_refused 261 = .ok (.iconst 0, 1) := by decide +kernel
theorem dL_refused_262 : decode cL_refused 262 = .ok (.iload 5, 2) := by decide +kernel
theorem dL_refused_264 : decode cL_refused 264 = .ok (.invokestatic 237, 3) := by decide +kernel
theorem dL_refused_267 : decode cL_refused 267 = .ok (.sipush (-1001), 3) := by decide +kernel
theorem dL_refused_270 : decode cL_refused 270 = .ok (.if_icmp .ne 175, 3) := by decide +kernel
theorem dL_refused_273 : decode cL_refused 273 = .ok (.aload_n 0, 1) := by decide +kernel
theorem dL_refused_274 : decode cL_refused 274 = .ok (.iconst 3, 1) := by decide +kernel
theorem dL_refused_275 : decode cL_refused 275 = .ok (.iload 5, 2) := by decide +kernel
theorem dL_refused_277 : decode cL_refused 277 = .ok (.iconst 0, 1) := by decide +kernel
theorem dL_refused_278 : decode cL_refused 278 = .ok (.invokestatic 282, 3) := by decide +kernel
theorem dL_refused_281 : decode cL_refused 281 = .ok (.ifCond .eq 164, 3) := by decide +kernel
theorem dL_refused_284 : decode cL_refused 284 = .ok (.aload_n 0, 1) := by decide +kernel
theorem dL_refused_285 : decode cL_refused 285 = .ok (.bipush 100, 2) := by decide +kernel
theorem dL_refused_287 : decode cL_refused 287 = .ok (.invokestatic 179, 3) := by decide +kernel
theorem dL_refused_290 : decode cL_refused 290 = .ok (.sipush (-1001), 3) := by decide +kernel
theorem dL_refused_293 : decode cL_refused 293 = .ok (.if_icmp .ne 152, 3) := by decide +kernel
theorem dL_refused_296 : decode cL_refused 296 = .ok (.aload_n 0, 1) := by decide +kernel
theorem dL_refused_297 : decode cL_refused 297 = .ok (.iconst 1, 1) := by decide +kernel
theorem dL_refused_298 : decode cL_refused 298 = .ok (.iconst 0, 1) := by decide +kernel
theorem dL_refused_299 : decode cL_refused 299 = .ok (.iconst 0, 1) := by decide +kernel
theorem dL_refused_300 : decode cL_refused 300 = .ok (.invokestatic 282, 3) := by decide +kernel
theorem dL_refused_303 : decode cL_refused 303 = .ok (.ifCond .eq 142, 3) := by decide +kernel
theorem dL_refused_306 : decode cL_refused 306 = .ok (.aload_n 0, 1) := by decide +kernel
theorem dL_refused_307 : decode cL_refused 307 = .ok (.iconst (-1), 1) := by decide +kernel
theorem dL_refused_308 : decode cL_refused 308 = .ok (.invokestatic 239, 3) := by decide +kernel
theorem dL_refused_311 : decode cL_refused 311 = .ok (.sipush (-1001), 3) := by decide +kernel
theorem dL_refused_314 : decode cL_refused 314 = .ok (.if_icmp .ne 131, 3) := by decide +kernel
theorem dL_refused_317 : decode cL_refused 317 = .ok (.aload_n 0, 1) := by decide +kernel
theorem dL_refused_318 : decode cL_refused 318 = .ok (.bipush 100, 2) := by decide +kernel
theorem dL_refused_320 : decode cL_refused 320 = .ok (.invokestatic 239, 3) := by decide +kernel
theorem dL_refused_323 : decode cL_refused 323 = .ok (.sipush (-1001), 3) := by decide +kernel
theorem dL_refused_326 : decode cL_refused 326 = .ok (.if_icmp .ne 119, 3) := by decide +kernel
theorem dL_refused_329 : decode cL_refused 329 = .ok (.aload_n 0, 1) := by decide +kernel
theorem dL_refused_330 : decode cL_refused 330 = .ok (.iload 6, 2) := by decide +kernel
theorem dL_refused_332 : decode cL_refused 332 = .ok (.invokestatic 241, 3) := by decide +kernel
theorem dL_refused_335 : decode cL_refused 335 = .ok (.sipush (-1001), 3) := by decide +kernel
theorem dL_refused_338 : decode cL_refused 338 = .ok (.if_icmp .ne 107, 3) := by decide +kernel
theorem dL_refused_341 : decode cL_refused 341 = .ok (.aload_n 0, 1) := by decide +kernel
theorem dL_refused_342 : decode cL_refused 342 = .ok (.iconst 3, 1) := by decide +kernel
theorem dL_refused_343 : decode cL_refused 343 = .ok (.iload 6, 2) := by decide +kernel
theorem dL_refused_345 : decode cL_refused 345 = .ok (.iconst 0, 1) := by decide +kernel
theorem dL_refused_346 : decode cL_refused 346 = .ok (.invokestatic 282, 3) := by decide +kernel
theorem dL_refused_349 : decode cL_refused 349 = .ok (.ifCond .eq 96, 3) := by decide +kernel
theorem dL_refused_352 : decode cL_refused 352 = .ok (.aload_n 0, 1) := by decide +kernel
theorem dL_refused_353 : decode cL_refused 353 = .ok (.iconst (-1), 1) := by decide +kernel
theorem dL_refused_354 : decode cL_refused 354 = .ok (.invokestatic 243, 3) := by decide +kernel
theorem dL_refused_357 : decode cL_refused 357 = .ok (.sipush (-1001), 3) := by decide +kernel
theorem dL_refused_360 : decode cL_refused 360 = .ok (.if_icmp .ne 85, 3) := by decide +kernel
theorem dL_refused_363 : decode cL_refused 363 = .ok (.aload_n 0, 1) := by decide +kernel
theorem dL_refused_364 : decode cL_refused 364 = .ok (.iconst 3, 1) := by decide +kernel
theorem dL_refused_365 : decode cL_refused 365 = .ok (.iconst (-1), 1) := by decide +kernel
theorem dL_refused_366 : decode cL_refused 366 = .ok (.iconst 0, 1) := by decide +kernel
theorem dL_refused_367 : decode cL_refused 367 = .ok (.invokestatic 282, 3) := by decide +kernel
theorem dL_refused_370 : decode cL_refused 370 = .ok (.ifCond .eq 75, 3) := by decide +kernel
theorem dL_refused_373 : decode cL_refused 373 = .ok (.aload_n 0, 1) := by decide +kernel
theorem dL_refused_374 : decode cL_refused 374 = .ok (.iload 6, 2) := by decide +kernel
theorem dL_refused_376 : decode cL_refused 376 = .ok (.invokestatic 245, 3) := by decide +kernel
theorem dL_refused_379 : decode cL_refused 379 = .ok (.sipush (-1001), 3) := by decide +kernel
theorem dL_refused_382 : decode cL_refused 382 = .ok (.if_icmp .ne 63, 3) := by decide +kernel
theorem dL_refused_385 : decode cL_refused 385 = .ok (.aload_n 0, 1) := by decide +kernel
theorem dL_refused_386 : decode cL_refused 386 = .ok (.iconst 0, 1) := by decide +kernel
theorem dL_refused_387 : decode cL_refused 387 = .ok (.invokestatic 247, 3) := by decide +kernel
theorem dL_refused_390 : decode cL_refused 390 = .ok (.sipush (-1001), 3) := by decide +kernel
theorem dL_refused_393 : decode cL_refused 393 = .ok (.if_icmp .ne 52, 3) := by decide +kernel
theorem dL_refused_396 : decode cL_refused 396 = .ok (.aload_n 0, 1) := by decide +kernel
theorem dL_refused_397 : decode cL_refused 397 = .ok (.bipush 101, 2) := by decide +kernel
theorem dL_refused_399 : decode cL_refused 399 = .ok (.invokestatic 247, 3) := by decide +kernel
theorem dL_refused_402 : decode cL_refused 402 = .ok (.sipush (-1001), 3) := by decide +kernel
theorem dL_refused_405 : decode cL_refused 405 = .ok (.if_icmp .ne 40, 3) := by decide +kernel
theorem dL_refused_408 : decode cL_refused 408 = .ok (.aload_n 0, 1) := by decide +kernel
theorem dL_refused_409 : decode cL_refused 409 = .ok (.iconst 0, 1) := by decide +kernel
theorem dL_refused_410 : decode cL_refused 410 = .ok (.invokestatic 183, 3) := by decide +kernel
theorem dL_refused_413 : decode cL_refused 413 = .ok (.sipush (-1001), 3) := by decide +kernel
theorem dL_refused_416 : decode cL_refused 416 = .ok (.if_icmp .ne 29, 3) := by decide +kernel
theorem dL_refused_419 : decode cL_refused 419 = .ok (.aload_n 0, 1) := by decide +kernel
theorem dL_refused_420 : decode cL_refused 420 = .ok (.bipush 49, 2) := by decide +kernel
theorem dL_refused_422 : decode cL_refused 422 = .ok (.invokestatic 183, 3) := by decide +kernel
theorem dL_refused_425 : decode cL_refused 425 = .ok (.sipush (-1001), 3) := by decide +kernel
theorem dL_refused_428 : decode cL_refused 428 = .ok (.if_icmp .ne 17, 3) := by decide +kernel
theorem dL_refused_431 : decode cL_refused 431 = .ok (.aload_n 0, 1) := by decide +kernel
theorem dL_refused_432 : decode cL_refused 432 = .ok (.iconst 1, 1) := by decide +kernel
theorem dL_refused_433 : decode cL_refused 433 = .ok (.iconst 0, 1) := by decide +kernel
theorem dL_refused_434 : decode cL_refused 434 = .ok (.iconst 0, 1) := by decide +kernel
theorem dL_refused_435 : decode cL_refused 435 = .ok (.invokestatic 282, 3) := by decide +kernel
theorem dL_refused_438 : decode cL_refused 438 = .ok (.ifCond .eq 7, 3) := by decide +kernel
theorem dL_refused_441 : decode cL_refused 441 = .ok (.iconst 1, 1) := by decide +kernel
theorem dL_refused_442 : decode cL_refused 442 = .ok (.goto 4, 3) := by decide +kernel
theorem dL_refused_445 : decode cL_refused 445 = .ok (.iconst 0, 1) := by decide +kernel
theorem dL_refused_446 : decode cL_refused 446 = .ok (.istore 7, 2) := by decide +kernel
theorem dL_refused_448 : decode cL_refused 448 = .ok (.iload 7, 2) := by decide +kernel
theorem dL_refused_450 : decode cL_refused 450 = .ok (.ifCond .eq 338, 3) := by decide +kernel
theorem dL_refused_453 : decode cL_refused 453 = .ok (.aload_n 0, 1) := by decide +kernel
theorem dL_refused_454 : decode cL_refused 454 = .ok (.iload_n 3, 1) := by decide +kernel
theorem dL_refused_455 : decode cL_refused 455 = .ok (.invokestatic 207, 3) := by decide +kernel
theorem dL_refused_458 : decode cL_refused 458 = .ok (.sipush (-1001), 3) := by decide +kernel
theorem dL_refused_461 : decode cL_refused 461 = .ok (.if_icmp .ne 327, 3) := by decide +kernel
theorem dL_refused_464 : decode cL_refused 464 = .ok (.aload_n 0, 1) := by decide +kernel
theorem dL_refused_465 : decode cL_refused 465 = .ok (.iconst (-1), 1) := by decide +kernel
theorem dL_refused_466 : decode cL_refused 466 = .ok (.invokestatic 207, 3) := by decide +kernel
theorem dL_refused_469 : decode cL_refused 469 = .ok (.sipush (-1001), 3) := by decide +kernel
theorem dL_refused_472 : decode cL_refused 472 = .ok (.if_icmp .ne 316, 3) := by decide +kernel
theorem dL_refused_475 : decode cL_refused 475 = .ok (.aload_n 0, 1) := by decide +kernel
theorem dL_refused_476 : decode cL_refused 476 = .ok (.iload 4, 2) := by decide +kernel
theorem dL_refused_478 : decode cL_refused 478 = .ok (.iconst 1, 1) := by decide +kernel
theorem dL_refused_479 : decode cL_refused 479 = .ok (.invokestatic 221, 3) := by decide +kernel
theorem dL_refused_482 : decode cL_refused 482 = .ok (.sipush (-1001), 3) := by decide +kernel
theorem dL_refused_485 : decode cL_refused 485 = .ok (.if_icmp .ne 303, 3) := by decide +kernel
theorem dL_refused_488 : decode cL_refused 488 = .ok (.aload_n 0, 1) := by decide +kernel
theorem dL_refused_489 : decode cL_refused 489 = .ok (.iload 6, 2) := by decide +kernel
theorem dL_refused_491 : decode cL_refused 491 = .ok (.bipush 9, 2) := by decide +kernel
theorem dL_refused_493 : decode cL_refused 493 = .ok (.invokestatic 224, 3) := by decide +kernel
theorem dL_refused_496 : decode cL_refused 496 = .ok (.sipush (-1001), 3) := by decide +kernel
theorem dL_refused_499 : decode cL_refused 499 = .ok (.if_icmp .ne 289, 3) := by decide +kernel
theorem dL_refused_502 : decode cL_refused 502 = .ok (.aload_n 0, 1) := by decide +kernel
theorem dL_refused_503 : decode cL_refused 503 = .ok (.iconst 0, 1) := by decide +kernel
theorem dL_refused_504 : decode cL_refused 504 = .ok (.iconst 5, 1) := by decide +kernel
theorem dL_refused_505 : decode cL_refused 505 = .ok (.invokestatic 224, 3) := by decide +kernel
theorem dL_refused_508 : decode cL_refused 508 = .ok (.sipush (-1002), 3) := by decide +kernel
theorem dL_refused_511 : decode cL_refused 511 = .ok (.if_icmp .ne 277, 3) := by decide +kernel
theorem dL_refused_514 : decode cL_refused 514 = .ok (.aload_n 0, 1) := by decide +kernel
theorem dL_refused_515 : decode cL_refused 515 = .ok (.iconst 0, 1) := by decide +kernel
theorem dL_refused_516 : decode cL_refused 516 = .ok (.iconst (-1), 1) := by decide +kernel
theorem dL_refused_517 : decode cL_refused 517 = .ok (.invokestatic 224, 3) := by decide +kernel
theorem dL_refused_520 : decode cL_refused 520 = .ok (.sipush (-1002), 3) := by decide +kernel
theorem dL_refused_523 : decode cL_refused 523 = .ok (.if_icmp .ne 265, 3) := by decide +kernel
theorem dL_refused_526 : decode cL_refused 526 = .ok (.aload_n 0, 1) := by decide +kernel
theorem dL_refused_527 : decode cL_refused 527 = .ok (.iload_n 3, 1) := by decide +kernel
theorem dL_refused_528 : decode cL_refused 528 = .ok (.iconst 0, 1) := by decide +kernel
theorem dL_refused_529 : decode cL_refused 529 = .ok (.invokestatic 211, 3) := by decide +kernel
theorem dL_refused_532 : decode cL_refused 532 = .ok (.sipush (-1001), 3) := by decide +kernel
theorem dL_refused_535 : decode cL_refused 535 = .ok (.if_icmp .ne 253, 3) := by decide +kernel
theorem dL_refused_538 : decode cL_refused 538 = .ok (.aload_n 0, 1) := by decide +kernel
theorem dL_refused_539 : decode cL_refused 539 = .ok (.iconst 0, 1) := by decide +kernel
theorem dL_refused_540 : decode cL_refused 540 = .ok (.iload 5, 2) := by decide +kernel
theorem dL_refused_542 : decode cL_refused 542 = .ok (.invokestatic 211, 3) := by decide +kernel
theorem dL_refused_545 : decode cL_refused 545 = .ok (.sipush (-1001), 3) := by decide +kernel
theorem dL_refused_548 : decode cL_refused 548 = .ok (.if_icmp .ne 240, 3) := by decide +kernel
theorem dL_refused_551 : decode cL_refused 551 = .ok (.aload_n 0, 1) := by decide +kernel
theorem dL_refused_552 : decode cL_refused 552 = .ok (.iload 5, 2) := by decide +kernel
theorem dL_refused_554 : decode cL_refused 554 = .ok (.invokestatic 228, 3) := by decide +kernel
theorem dL_refused_557 : decode cL_refused 557 = .ok (.sipush (-1001), 3) := by decide +kernel
theorem dL_refused_560 : decode cL_refused 560 = .ok (.if_icmp .ne 228, 3) := by decide +kernel
theorem dL_refused_563 : decode cL_refused 563 = .ok (.aload_n 0, 1) := by decide +kernel
theorem dL_refused_564 : decode cL_refused 564 = .ok (.iload_n 3, 1) := by decide +kernel
theorem dL_refused_565 : decode cL_refused 565 = .ok (.iconst 0, 1) := by decide +kernel
theorem dL_refused_566 : decode cL_refused 566 = .ok (.invokestatic 213, 3) := by decide +kernel
theorem dL_refused_569 : decode cL_refused 569 = .ok (.sipush (-1001), 3) := by decide +kernel
theorem dL_refused_572 : decode cL_refused 572 = .ok (.if_icmp .ne 216, 3) := by decide +kernel
theorem dL_refused_575 : decode cL_refused 575 = .ok (.aload_n 0, 1) := by decide +kernel
theorem dL_refused_576 : decode cL_refused 576 = .ok (.iconst 0, 1) := by decide +kernel
theorem dL_refused_577 : decode cL_refused 577 = .ok (.iload 4, 2) := by decide +kernel
theorem dL_refused_579 : decode cL_refused 579 = .ok (.invokestatic 213, 3) := by decide +kernel
theorem dL_refused_582 : decode cL_refused 582 = .ok (.sipush (-1001), 3) := by decide +kernel
theorem dL_refused_585 : decode cL_refused 585 = .ok (.if_icmp .ne 203, 3) := by decide +kernel
theorem dL_refused_588 : decode cL_refused 588 = .ok (.aload_n 0, 1) := by decide +kernel
theorem dL_refused_589 : decode cL_refused 589 = .ok (.iconst (-1), 1) := by decide +kernel
theorem dL_refused_590 : decode cL_refused 590 = .ok (.iconst 0, 1) := by decide +kernel
theorem dL_refused_591 : decode cL_refused 591 = .ok (.invokestatic 215, 3) := by decide +kernel
theorem dL_refused_594 : decode cL_refused 594 = .ok (.sipush (-1001), 3) := by decide +kernel
theorem dL_refused_597 : decode cL_refused 597 = .ok (.if_icmp .ne 191, 3) := by decide +kernel
theorem dL_refused_600 : decode cL_refused 600 = .ok (.aload_n 0, 1) := by decide +kernel
theorem dL_refused_601 : decode cL_refused 601 = .ok (.iconst 0, 1) := by decide +kernel
theorem dL_refused_602 : decode cL_refused 602 = .ok (.iconst (-1), 1) := by decide +kernel
theorem dL_refused_603 : decode cL_refused 603 = .ok (.invokestatic 217, 3) := by decide +kernel
theorem dL_refused_606 : decode cL_refused 606 = .ok (.sipush (-1001), 3) := by decide +kernel
theorem dL_refused_609 : decode cL_refused 609 = .ok (.if_icmp .ne 179, 3) := by decide +kernel
theorem dL_refused_612 : decode cL_refused 612 = .ok (.aload_n 0, 1) := by decide +kernel
theorem dL_refused_613 : decode cL_refused 613 = .ok (.iload_n 3, 1) := by decide +kernel
theorem dL_refused_614 : decode cL_refused 614 = .ok (.invokestatic 209, 3) := by decide +kernel
theorem dL_refused_617 : decode cL_refused 617 = .ok (.sipush (-1001), 3) := by decide +kernel
theorem dL_refused_620 : decode cL_refused 620 = .ok (.if_icmp .ne 168, 3) := by decide +kernel
theorem dL_refused_623 : decode cL_refused 623 = .ok (.aload_n 0, 1) := by decide +kernel
theorem dL_refused_624 : decode cL_refused 624 = .ok (.iconst 0, 1) := by decide +kernel
theorem dL_refused_625 : decode cL_refused 625 = .ok (.iload 4, 2) := by decide +kernel
theorem dL_refused_627 : decode cL_refused 627 = .ok (.invokestatic 219, 3) := by decide +kernel
theorem dL_refused_630 : decode cL_refused 630 = .ok (.sipush (-1001), 3) := by decide +kernel
theorem dL_refused_633 : decode cL_refused 633 = .ok (.if_icmp .ne 155, 3) := by decide +kernel
theorem dL_refused_636 : decode cL_refused 636 = .ok (.aload_n 0, 1) := by decide +kernel
theorem dL_refused_637 : decode cL_refused 637 = .ok (.iconst (-1), 1) := by decide +kernel
theorem dL_refused_638 : decode cL_refused 638 = .ok (.invokestatic 230, 3) := by decide +kernel
theorem dL_refused_641 : decode cL_refused 641 = .ok (.sipush (-1001), 3) := by decide +kernel
theorem dL_refused_644 : decode cL_refused 644 = .ok (.if_icmp .ne 144, 3) := by decide +kernel
theorem dL_refused_647 : decode cL_refused 647 = .ok (.aload_n 0, 1) := by decide +kernel
theorem dL_refused_648 : decode cL_refused 648 = .ok (.bipush 48, 2) := by decide +kernel
theorem dL_refused_650 : decode cL_refused 650 = .ok (.invokestatic 230, 3) := by decide +kernel
theorem dL_refused_653 : decode cL_refused 653 = .ok (.sipush (-1001), 3) := by decide +kernel
theorem dL_refused_656 : decode cL_refused 656 = .ok (.if_icmp .ne 132, 3) := by decide +kernel
theorem dL_refused_659 : decode cL_refused 659 = .ok (.aload_n 0, 1) := by decide +kernel
theorem dL_refused_660 : decode cL_refused 660 = .ok (.iload 6, 2) := by decide +kernel
theorem dL_refused_662 : decode cL_refused 662 = .ok (.invokestatic 226, 3) := by decide +kernel
theorem dL_refused_665 : decode cL_refused 665 = .ok (.sipush (-1001), 3) := by decide +kernel
theorem dL_refused_668 : decode cL_refused 668 = .ok (.if_icmp .ne 120, 3) := by decide +kernel
theorem dL_refused_671 : decode cL_refused 671 = .ok (.aload_n 0, 1) := by decide +kernel
theorem dL_refused_672 : decode cL_refused 672 = .ok (.iconst (-1), 1) := by decide +kernel
theorem dL_refused_673 : decode cL_refused 673 = .ok (.invokestatic 232, 3) := by decide +kernel
theorem dL_refused_676 : decode cL_refused 676 = .ok (.sipush (-1001), 3) := by decide +kernel
theorem dL_refused_679 : decode cL_refused 679 = .ok (.if_icmp .ne 109, 3) := by decide +kernel
theorem dL_refused_682 : decode cL_refused 682 = .ok (.aload_n 0, 1) := by decide +kernel
theorem dL_refused_683 : decode cL_refused 683 = .ok (.bipush 100, 2) := by decide +kernel
theorem dL_refused_685 : decode cL_refused 685 = .ok (.invokestatic 232, 3) := by decide +kernel
theorem dL_refused_688 : decode cL_refused 688 = .ok (.sipush (-1001), 3) := by decide +kernel
theorem dL_refused_691 : decode cL_refused 691 = .ok (.if_icmp .ne 97, 3) := by decide +kernel
theorem dL_refused_694 : decode cL_refused 694 = .ok (.aload_n 0, 1) := by decide +kernel
theorem dL_refused_695 : decode cL_refused 695 = .ok (.iload 5, 2) := by decide +kernel
theorem dL_refused_697 : decode cL_refused 697 = .ok (.invokestatic 161, 3) := by decide +kernel
theorem dL_refused_700 : decode cL_refused 700 = .ok (.sipush (-1001), 3) := by decide +kernel
theorem dL_refused_703 : decode cL_refused 703 = .ok (.if_icmp .ne 85, 3) := by decide +kernel
theorem dL_refused_706 : decode cL_refused 706 = .ok (.aload_n 0, 1) := by decide +kernel
theorem dL_refused_707 : decode cL_refused 707 = .ok (.iconst (-1), 1) := by decide +kernel
theorem dL_refused_708 : decode cL_refused 708 = .ok (.invokestatic 163, 3) := by decide +kernel
theorem dL_refused_711 : decode cL_refused 711 = .ok (.sipush (-1001), 3) := by decide +kernel
theorem dL_refused_714 : decode cL_refused 714 = .ok (.if_icmp .ne 74, 3) := by decide +kernel
theorem dL_refused_717 : decode cL_refused 717 = .ok (.aload_n 0, 1) := by decide +kernel
theorem dL_refused_718 : decode cL_refused 718 = .ok (.bipush 100, 2) := by decide +kernel
theorem dL_refused_720 : decode cL_refused 720 = .ok (.invokestatic 163, 3) := by decide +kernel
theorem dL_refused_723 : decode cL_refused 723 = .ok (.sipush (-1001), 3) := by decide +kernel
theorem dL_refused_726 : decode cL_refused 726 = .ok (.if_icmp .ne 62, 3) := by decide +kernel
theorem dL_refused_729 : decode cL_refused 729 = .ok (.aload_n 0, 1) := by decide +kernel
theorem dL_refused_730 : decode cL_refused 730 = .ok (.bipush 17, 2) := by decide +kernel
theorem dL_refused_732 : decode cL_refused 732 = .ok (.invokestatic 205, 3) := by decide +kernel
theorem dL_refused_735 : decode cL_refused 735 = .ok (.sipush (-1001), 3) := by decide +kernel
theorem dL_refused_738 : decode cL_refused 738 = .ok (.if_icmp .ne 50, 3) := by decide +kernel
theorem dL_refused_741 : decode cL_refused 741 = .ok (.aload_n 0, 1) := by decide +kernel
theorem dL_refused_742 : decode cL_refused 742 = .ok (.iconst (-1), 1) := by decide +kernel
theorem dL_refused_743 : decode cL_refused 743 = .ok (.invokestatic 205, 3) := by decide +kernel
theorem dL_refused_746 : decode cL_refused 746 = .ok (.sipush (-1001), 3) := by decide +kernel
theorem dL_refused_749 : decode cL_refused 749 = .ok (.if_icmp .ne 39, 3) := by decide +kernel
theorem dL_refused_752 : decode cL_refused 752 = .ok (.aload_n 0, 1) := by decide +kernel
theorem dL_refused_753 : decode cL_refused 753 = .ok (.iconst 3, 1) := by decide +kernel
theorem dL_refused_754 : decode cL_refused 754 = .ok (.invokestatic 158, 3) := by decide +kernel
theorem dL_refused_757 : decode cL_refused 757 = .ok (.sipush (-1001), 3) := by decide +kernel
theorem dL_refused_760 : decode cL_refused 760 = .ok (.if_icmp .ne 28, 3) := by decide +kernel
theorem dL_refused_763 : decode cL_refused 763 = .ok (.aload_n 0, 1) := by decide +kernel
theorem dL_refused_764 : decode cL_refused 764 = .ok (.iconst (-1), 1) := by decide +kernel
theorem dL_refused_765 : decode cL_refused 765 = .ok (.invokestatic 158, 3) := by decide +kernel
theorem dL_refused_768 : decode cL_refused 768 = .ok (.sipush (-1001), 3) := by decide +kernel
theorem dL_refused_771 : decode cL_refused 771 = .ok (.if_icmp .ne 17, 3) := by decide +kernel
theorem dL_refused_774 : decode cL_refused 774 = .ok (.aload_n 0, 1) := by decide +kernel
theorem dL_refused_775 : decode cL_refused 775 = .ok (.iconst 1, 1) := by decide +kernel
theorem dL_refused_776 : decode cL_refused 776 = .ok (.iconst 0, 1) := by decide +kernel
theorem dL_refused_777 : decode cL_refused 777 = .ok (.iconst 0, 1) := by decide +kernel
theorem dL_refused_778 : decode cL_refused 778 = .ok (.invokestatic 282, 3) := by decide +kernel
theorem dL_refused_781 : decode cL_refused 781 = .ok (.ifCond .eq 7, 3) := by decide +kernel
theorem dL_refused_784 : decode cL_refused 784 = .ok (.iconst 1, 1) := by decide +kernel
theorem dL_refused_785 : decode cL_refused 785 = .ok (.goto 4, 3) := by decide +kernel
theorem dL_refused_788 : decode cL_refused 788 = .ok (.iconst 0, 1) := by decide +kernel
theorem dL_refused_789 : decode cL_refused 789 = .ok (.istore 7, 2) := by decide +kernel
theorem dL_refused_791 : decode cL_refused 791 = .ok (.iload 7, 2) := by decide +kernel
theorem dL_refused_793 : decode cL_refused 793 = .ok (.ifCond .eq 77, 3) := by decide +kernel
theorem dL_refused_796 : decode cL_refused 796 = .ok (.aload_n 0, 1) := by decide +kernel
theorem dL_refused_797 : decode cL_refused 797 = .ok (.ldc_w 286, 3) := by decide +kernel
theorem dL_refused_800 : decode cL_refused 800 = .ok (.invokestatic 274, 3) := by decide +kernel
theorem dL_refused_803 : decode cL_refused 803 = .ok (.sipush (-1001), 3) := by decide +kernel
theorem dL_refused_806 : decode cL_refused 806 = .ok (.if_icmp .ne 64, 3) := by decide +kernel
theorem dL_refused_809 : decode cL_refused 809 = .ok (.aload_n 0, 1) := by decide +kernel
theorem dL_refused_810 : decode cL_refused 810 = .ok (.invokevirtual 288, 3) := by decide +kernel
theorem dL_refused_813 : decode cL_refused 813 = .ok (.ifCond .ne 57, 3) := by decide +kernel
theorem dL_refused_816 : decode cL_refused 816 = .ok (.aload_n 0, 1) := by decide +kernel
theorem dL_refused_817 : decode cL_refused 817 = .ok (.iconst 1, 1) := by decide +kernel
theorem dL_refused_818 : decode cL_refused 818 = .ok (.iconst 0, 1) := by decide +kernel
theorem dL_refused_819 : decode cL_refused 819 = .ok (.iconst 0, 1) := by decide +kernel
theorem dL_refused_820 : decode cL_refused 820 = .ok (.invokestatic 282, 3) := by decide +kernel
theorem dL_refused_823 : decode cL_refused 823 = .ok (.ifCond .eq 47, 3) := by decide +kernel
theorem dL_refused_826 : decode cL_refused 826 = .ok (.aload_n 0, 1) := by decide +kernel
theorem dL_refused_827 : decode cL_refused 827 = .ok (.ldc_w 291, 3) := by decide +kernel
theorem dL_refused_830 : decode cL_refused 830 = .ok (.invokestatic 274, 3) := by decide +kernel
theorem dL_refused_833 : decode cL_refused 833 = .ok (.sipush (-1002), 3) := by decide +kernel
theorem dL_refused_836 : decode cL_refused 836 = .ok (.if_icmp .ne 34, 3) := by decide +kernel
theorem dL_refused_839 : decode cL_refused 839 = .ok (.aload_n 0, 1) := by decide +kernel
theorem dL_refused_840 : decode cL_refused 840 = .ok (.invokevirtual 288, 3) := by decide +kernel
theorem dL_refused_843 : decode cL_refused 843 = .ok (.iconst (-1), 1) := by decide +kernel
theorem dL_refused_844 : decode cL_refused 844 = .ok (.if_icmp .ne 26, 3) := by decide +kernel
theorem dL_refused_847 : decode cL_refused 847 = .ok (.aload_n 0, 1) := by decide +kernel
theorem dL_refused_848 : decode cL_refused 848 = .ok (.iconst 1, 1) := by decide +kernel
theorem dL_refused_849 : decode cL_refused 849 = .ok (.iconst 0, 1) := by decide +kernel
theorem dL_refused_850 : decode cL_refused 850 = .ok (.iconst 2, 1) := by decide +kernel
theorem dL_refused_851 : decode cL_refused 851 = .ok (.invokestatic 282, 3) := by decide +kernel
theorem dL_refused_854 : decode cL_refused 854 = .ok (.ifCond .eq 16, 3) := by decide +kernel
theorem dL_refused_857 : decode cL_refused 857 = .ok (.aload_n 0, 1) := by decide +kernel
theorem dL_refused_858 : decode cL_refused 858 = .ok (.invokestatic 278, 3) := by decide +kernel
theorem dL_refused_861 : decode cL_refused 861 = .ok (.lload_n 1, 1) := by decide +kernel
theorem dL_refused_862 : decode cL_refused 862 = .ok (.lcmp, 1) := by decide +kernel
theorem dL_refused_863 : decode cL_refused 863 = .ok (.ifCond .ne 7, 3) := by decide +kernel
theorem dL_refused_866 : decode cL_refused 866 = .ok (.iconst 1, 1) := by decide +kernel
theorem dL_refused_867 : decode cL_refused 867 = .ok (.goto 4, 3) := by decide +kernel
theorem dL_refused_870 : decode cL_refused 870 = .ok (.iconst 0, 1) := by decide +kernel
theorem dL_refused_871 : decode cL_refused 871 = .ok (.ireturn, 1) := by decide +kernel
theorem dL_law_0 : decode cL_law 0 = .ok (.new 8, 3) := by decide +kernel
theorem dL_law_3 : decode cL_law 3 = .ok (.dup, 1) := by decide +kernel
theorem dL_law_4 : decode cL_law 4 = .ok (.invokespecial 293, 3) := by decide +kernel
theorem dL_law_7 : decode cL_law 7 = .ok (.astore_n 1, 1) := by decide +kernel
theorem dL_law_8 : decode cL_law 8 = .ok (.aload_n 1, 1) := by decide +kernel
theorem dL_law_9 : decode cL_law 9 = .ok (.invokestatic 294, 3) := by decide +kernel
theorem dL_law_12 : decode cL_law 12 = .ok (.sipush (-1001), 3) := by decide +kernel
theorem dL_law_15 : decode cL_law 15 = .ok (.if_icmp .ne 39, 3) := by decide +kernel
theorem dL_law_18 : decode cL_law 18 = .ok (.aload_n 1, 1) := by decide +kernel
theorem dL_law_19 : decode cL_law 19 = .ok (.invokestatic 296, 3) := by decide +kernel
theorem dL_law_22 : decode cL_law 22 = .ok (.sipush (-1001), 3) := by decide +kernel
theorem dL_law_25 : decode cL_law 25 = .ok (.if_icmp .ne 29, 3) := by decide +kernel
theorem dL_law_28 : decode cL_law 28 = .ok (.aload_n 1, 1) := by decide +kernel
theorem dL_law_29 : decode cL_law 29 = .ok (.invokevirtual 298, 3) := by decide +kernel
theorem dL_law_32 : decode cL_law 32 = .ok (.ifCond .ne 22, 3) := by decide +kernel
theorem dL_law_35 : decode cL_law 35 = .ok (.aload_n 1, 1) := by decide +kernel
theorem dL_law_36 : decode cL_law 36 = .ok (.bipush 48, 2) := by decide +kernel
theorem dL_law_38 : decode cL_law 38 = .ok (.invokestatic 183, 3) := by decide +kernel
theorem dL_law_41 : decode cL_law 41 = .ok (.ifCond .ne 13, 3) := by decide +kernel
theorem dL_law_44 : decode cL_law 44 = .ok (.aload_n 1, 1) := by decide +kernel
theorem dL_law_45 : decode cL_law 45 = .ok (.iconst 0, 1) := by decide +kernel
theorem dL_law_46 : decode cL_law 46 = .ok (.invokestatic 205, 3) := by decide +kernel
theorem dL_law_49 : decode cL_law 49 = .ok (.bipush 48, 2) := by decide +kernel
theorem dL_law_51 : decode cL_law 51 = .ok (.if_icmp .eq 5, 3) := by decide +kernel
theorem dL_law_54 : decode cL_law 54 = .ok (.iconst 0, 1) := by decide +kernel
theorem dL_law_55 : decode cL_law 55 = .ok (.ireturn, 1) := by decide +kernel
theorem dL_law_56 : decode cL_law 56 = .ok (.iconst 0, 1) := by decide +kernel
theorem dL_law_57 : decode cL_law 57 = .ok (.istore_n 2, 1) := by decide +kernel
theorem dL_law_58 : decode cL_law 58 = .ok (.iload_n 2, 1) := by decide +kernel
theorem dL_law_59 : decode cL_law 59 = .ok (.bipush 60, 2) := by decide +kernel
theorem dL_law_61 : decode cL_law 61 = .ok (.if_icmp .ge 26, 3) := by decide +kernel
theorem dL_law_64 : decode cL_law 64 = .ok (.aload_n 1, 1) := by decide +kernel
theorem dL_law_65 : decode cL_law 65 = .ok (.bipush 65, 2) := by decide +kernel
theorem dL_law_67 : decode cL_law 67 = .ok (.iload_n 2, 1) := by decide +kernel
theorem dL_law_68 : decode cL_law 68 = .ok (.iadd, 1) := by decide +kernel
theorem dL_law_69 : decode cL_law 69 = .ok (.i2c, 1) := by decide +kernel
theorem dL_law_70 : decode cL_law 70 = .ok (.invokestatic 150, 3) := by decide +kernel
theorem dL_law_73 : decode cL_law 73 = .ok (.iload_n 2, 1) := by decide +kernel
theorem dL_law_74 : decode cL_law 74 = .ok (.iconst 1, 1) := by decide +kernel
theorem dL_law_75 : decode cL_law 75 = .ok (.iadd, 1) := by decide +kernel
theorem dL_law_76 : decode cL_law 76 = .ok (.if_icmp .eq 5, 3) := by decide +kernel
theorem dL_law_79 : decode cL_law 79 = .ok (.iconst 0, 1) := by decide +kernel
theorem dL_law_80 : decode cL_law 80 = .ok (.ireturn, 1) := by decide +kernel
theorem dL_law_81 : decode cL_law 81 = .ok (.iinc 2 1, 3) := by decide +kernel
theorem dL_law_84 : decode cL_law 84 = .ok (.goto (-26), 3) := by decide +kernel
theorem dL_law_87 : decode cL_law 87 = .ok (.aload_n 1, 1) := by decide +kernel
theorem dL_law_88 : decode cL_law 88 = .ok (.bipush 119, 2) := by decide +kernel
theorem dL_law_90 : decode cL_law 90 = .ok (.invokestatic 150, 3) := by decide +kernel
theorem dL_law_93 : decode cL_law 93 = .ok (.sipush (-1001), 3) := by decide +kernel
theorem dL_law_96 : decode cL_law 96 = .ok (.if_icmp .ne 40, 3) := by decide +kernel
theorem dL_law_99 : decode cL_law 99 = .ok (.aload_n 1, 1) := by decide +kernel
theorem dL_law_100 : decode cL_law 100 = .ok (.bipush 16, 2) := by decide +kernel
theorem dL_law_102 : decode cL_law 102 = .ok (.invokestatic 205, 3) := by decide +kernel
theorem dL_law_105 : decode cL_law 105 = .ok (.bipush 60, 2) := by decide +kernel
theorem dL_law_107 : decode cL_law 107 = .ok (.if_icmp .ne 29, 3) := by decide +kernel
theorem dL_law_110 : decode cL_law 110 = .ok (.aload_n 1, 1) := by decide +kernel
theorem dL_law_111 : decode cL_law 111 = .ok (.invokestatic 155, 3) := by decide +kernel
theorem dL_law_114 : decode cL_law 114 = .ok (.sipush (-1001), 3) := by decide +kernel
theorem dL_law_117 : decode cL_law 117 = .ok (.if_icmp .ne 19, 3) := by decide +kernel
theorem dL_law_120 : decode cL_law 120 = .ok (.aload_n 1, 1) := by decide +kernel
theorem dL_law_121 : decode cL_law 121 = .ok (.invokevirtual 288, 3) := by decide +kernel
theorem dL_law_124 : decode cL_law 124 = .ok (.ifCond .ne 12, 3) := by decide +kernel
theorem dL_law_127 : decode cL_law 127 = .ok (.aload_n 1, 1) := by decide +kernel
theorem dL_law_128 : decode cL_law 128 = .ok (.bipush 16, 2) := by decide +kernel
theorem dL_law_130 : decode cL_law 130 = .ok (.invokestatic 205, 3) := by decide +kernel
theorem dL_law_133 : decode cL_law 133 = .ok (.ifCond .eq 5, 3) := by decide +kernel
theorem dL_law_136 : decode cL_law 136 = .ok (.iconst 0, 1) := by decide +kernel
theorem dL_law_137 : decode cL_law 137 = .ok (.ireturn, 1) := by decide +kernel
theorem dL_law_138 : decode cL_law 138 = .ok (.iconst 0, 1) := by decide +kernel
theorem dL_law_139 : decode cL_law 139 = .ok (.istore_n 2, 1) := by decide +kernel
theorem dL_law_140 : decode cL_law 140 = .ok (.iload_n 2, 1) := by decide +kernel
theorem dL_law_141 : decode cL_law 141 = .ok (.bipush 10, 2) := by decide +kernel
theorem dL_law_143 : decode cL_law 143 = .ok (.if_icmp .ge 23, 3) := by decide +kernel
theorem dL_law_146 : decode cL_law 146 = .ok (.aload_n 1, 1) := by decide +kernel
theorem dL_law_147 : decode cL_law 147 = .ok (.bipush 11, 2) := by decide +kernel
theorem dL_law_149 : decode cL_law 149 = .ok (.iload_n 2, 1) := by decide +kernel
theorem dL_law_150 : decode cL_law 150 = .ok (.imul, 1) := by decide +kernel
theorem dL_law_151 : decode cL_law 151 = .ok (.invokestatic 172, 3) := by decide +kernel
theorem dL_law_154 : decode cL_law 154 = .ok (.iload_n 2, 1) := by decide +kernel
theorem dL_law_155 : decode cL_law 155 = .ok (.if_icmp .eq 5, 3) := by decide +kernel
theorem dL_law_158 : decode cL_law 158 = .ok (.iconst 0, 1) := by decide +kernel
theorem dL_law_159 : decode cL_law 159 = .ok (.ireturn, 1) := by decide +kernel
theorem dL_law_160 : decode cL_law 160 = .ok (.iinc 2 1, 3) := by decide +kernel
theorem dL_law_163 : decode cL_law 163 = .ok (.goto (-23), 3) := by decide +kernel
theorem dL_law_166 : decode cL_law 166 = .ok (.iconst 0, 1) := by decide +kernel
theorem dL_law_167 : decode cL_law 167 = .ok (.istore_n 2, 1) := by decide +kernel
theorem dL_law_168 : decode cL_law 168 = .ok (.iload_n 2, 1) := by decide +kernel
theorem dL_law_169 : decode cL_law 169 = .ok (.iconst 4, 1) := by decide +kernel
theorem dL_law_170 : decode cL_law 170 = .ok (.if_icmp .ge 27, 3) := by decide +kernel
theorem dL_law_173 : decode cL_law 173 = .ok (.aload_n 1, 1) := by decide +kernel
theorem dL_law_174 : decode cL_law 174 = .ok (.bipush 99, 2) := by decide +kernel
theorem dL_law_176 : decode cL_law 176 = .ok (.bipush 9, 2) := by decide +kernel
theorem dL_law_178 : decode cL_law 178 = .ok (.iload_n 2, 1) := by decide +kernel
theorem dL_law_179 : decode cL_law 179 = .ok (.iconst 2, 1) := by decide +kernel
theorem dL_law_180 : decode cL_law 180 = .ok (.idiv, 1) := by decide +kernel
theorem dL_law_181 : decode cL_law 181 = .ok (.isub, 1) := by decide +kernel
theorem dL_law_182 : decode cL_law 182 = .ok (.invokestatic 174, 3) := by decide +kernel
theorem dL_law_185 : decode cL_law 185 = .ok (.iload_n 2, 1) := by decide +kernel
theorem dL_law_186 : decode cL_law 186 = .ok (.if_icmp .eq 5, 3) := by decide +kernel
theorem dL_law_189 : decode cL_law 189 = .ok (.iconst 0, 1) := by decide +kernel
theorem dL_law_190 : decode cL_law 190 = .ok (.ireturn, 1) := by decide +kernel
theorem dL_law_191 : decode cL_law 191 = .ok (.iinc 2 1, 3) := by decide +kernel
theorem dL_law_194 : decode cL_law 194 = .ok (.goto (-26), 3) := by decide +kernel
theorem dL_law_197 : decode cL_law 197 = .ok (.iconst 0, 1) := by decide +kernel
theorem dL_law_198 : decode cL_law 198 = .ok (.istore_n 2, 1) := by decide +kernel
theorem dL_law_199 : decode cL_law 199 = .ok (.iload_n 2, 1) := by decide +kernel
theorem dL_law_200 : decode cL_law 200 = .ok (.iconst 3, 1) := by decide +kernel
theorem dL_law_201 : decode cL_law 201 = .ok (.if_icmp .ge 19, 3) := by decide +kernel
theorem dL_law_204 : decode cL_law 204 = .ok (.aload_n 1, 1) := by decide +kernel
theorem dL_law_205 : decode cL_law 205 = .ok (.invokestatic 177, 3) := by decide +kernel
theorem dL_law_208 : decode cL_law 208 = .ok (.iload_n 2, 1) := by decide +kernel
theorem dL_law_209 : decode cL_law 209 = .ok (.if_icmp .eq 5, 3) := by decide +kernel
theorem dL_law_212 : decode cL_law 212 = .ok (.iconst 0, 1) := by decide +kernel
theorem dL_law_213 : decode cL_law 213 = .ok (.ireturn, 1) := by decide +kernel
theorem dL_law_214 : decode cL_law 214 = .ok (.iinc 2 1, 3) := by decide +kernel
theorem dL_law_217 : decode cL_law 217 = .ok (.goto (-18), 3) := by decide +kernel
theorem dL_law_220 : decode cL_law 220 = .ok (.iconst 0, 1) := by decide +kernel
theorem dL_law_221 : decode cL_law 221 = .ok (.istore_n 2, 1) := by decide +kernel
theorem dL_law_222 : decode cL_law 222 = .ok (.iload_n 2, 1) := by decide +kernel
theorem dL_law_223 : decode cL_law 223 = .ok (.bipush 6, 2) := by decide +kernel
theorem dL_law_225 : decode cL_law 225 = .ok (.if_icmp .ge 21, 3) := by decide +kernel
theorem dL_law_228 : decode cL_law 228 = .ok (.aload_n 1, 1) := by decide +kernel
theorem dL_law_229 : decode cL_law 229 = .ok (.bipush 95, 2) := by decide +kernel
theorem dL_law_231 : decode cL_law 231 = .ok (.invokestatic 179, 3) := by decide +kernel
theorem dL_law_234 : decode cL_law 234 = .ok (.iload_n 2, 1) := by decide +kernel
theorem dL_law_235 : decode cL_law 235 = .ok (.if_icmp .eq 5, 3) := by decide +kernel
theorem dL_law_238 : decode cL_law 238 = .ok (.iconst 0, 1) := by decide +kernel
theorem dL_law_239 : decode cL_law 239 = .ok (.ireturn, 1) := by decide +kernel
theorem dL_law_240 : decode cL_law 240 = .ok (.iinc 2 1, 3) := by decide +kernel
theorem dL_law_243 : decode cL_law 243 = .ok (.goto (-21), 3) := by decide +kernel
theorem dL_law_246 : decode cL_law 246 = .ok (.aload_n 1, 1) := by decide +kernel
theorem dL_law_247 : decode cL_law 247 = .ok (.iconst 5, 1) := by decide +kernel
theorem dL_law_248 : decode cL_law 248 = .ok (.invokestatic 172, 3) := by decide +kernel
theorem dL_law_251 : decode cL_law 251 = .ok (.sipush (-1001), 3) := by decide +kernel
theorem dL_law_254 : decode cL_law 254 = .ok (.if_icmp .ne 137, 3) := by decide +kernel
theorem dL_law_257 : decode cL_law 257 = .ok (.aload_n 1, 1) := by decide +kernel
theorem dL_law_258 : decode cL_law 258 = .ok (.iconst 2, 1) := by decide +kernel
theorem dL_law_259 : decode cL_law 259 = .ok (.bipush 10, 2) := by decide +kernel
theorem dL_law_261 : decode cL_law 261 = .ok (.iconst 0, 1) := by decide +kernel
theorem dL_law_262 : decode cL_law 262 = .ok (.invokestatic 282, 3) := by decide +kernel
theorem dL_law_265 : decode cL_law 265 = .ok (.ifCond .eq 126, 3) := by decide +kernel
theorem dL_law_268 : decode cL_law 268 = .ok (.aload_n 1, 1) := by decide +kernel
theorem dL_law_269 : decode cL_law 269 = .ok (.iconst 0, 1) := by decide +kernel
theorem dL_law_270 : decode cL_law 270 = .ok (.iconst 1, 1) := by decide +kernel
theorem dL_law_271 : decode cL_law 271 = .ok (.invokestatic 174, 3) := by decide +kernel
theorem dL_law_274 : decode cL_law 274 = .ok (.sipush (-1001), 3) := by decide +kernel
theorem dL_law_277 : decode cL_law 277 = .ok (.if_icmp .ne 114, 3) := by decide +kernel
theorem dL_law_280 : decode cL_law 280 = .ok (.aload_n 1, 1) := by decide +kernel
theorem dL_law_281 : decode cL_law 281 = .ok (.iconst 2, 1) := by decide +kernel
theorem dL_law_282 : decode cL_law 282 = .ok (.iconst 4, 1) := by decide +kernel
theorem dL_law_283 : decode cL_law 283 = .ok (.iconst 0, 1) := by decide +kernel
theorem dL_law_284 : decode cL_law 284 = .ok (.invokestatic 282, 3) := by decide +kernel
theorem dL_law_287 : decode cL_law 287 = .ok (.ifCond .eq 104, 3) := by decide +kernel
theorem dL_law_290 : decode cL_law 290 = .ok (.aload_n 1, 1) := by decide +kernel
theorem dL_law_291 : decode cL_law 291 = .ok (.invokestatic 177, 3) := by decide +kernel
theorem dL_law_294 : decode cL_law 294 = .ok (.sipush (-1001), 3) := by decide +kernel
theorem dL_law_297 : decode cL_law 297 = .ok (.if_icmp .ne 94, 3) := by decide +kernel
theorem dL_law_300 : decode cL_law 300 = .ok (.aload_n 1, 1) := by decide +kernel
theorem dL_law_301 : decode cL_law 301 = .ok (.iconst 2, 1) := by decide +kernel
theorem dL_law_302 : decode cL_law 302 = .ok (.iconst 3, 1) := by decide +kernel
theorem dL_law_303 : decode cL_law 303 = .ok (.iconst 0, 1) := by decide +kernel
theorem dL_law_304 : decode cL_law 304 = .ok (.invokestatic 282, 3) := by decide +kernel
theorem dL_law_307 : decode cL_law 307 = .ok (.ifCond .eq 84, 3) := by decide +kernel
theorem dL_law_310 : decode cL_law 310 = .ok (.aload_n 1, 1) := by decide +kernel
theorem dL_law_311 : decode cL_law 311 = .ok (.iconst 0, 1) := by decide +kernel
theorem dL_law_312 : decode cL_law 312 = .ok (.invokestatic 179, 3) := by decide +kernel
theorem dL_law_315 : decode cL_law 315 = .ok (.sipush (-1001), 3) := by decide +kernel
theorem dL_law_318 : decode cL_law 318 = .ok (.if_icmp .ne 73, 3) := by decide +kernel
theorem dL_law_321 : decode cL_law 321 = .ok (.aload_n 1, 1) := by decide +kernel
theorem dL_law_322 : decode cL_law 322 = .ok (.iconst 2, 1) := by decide +kernel
theorem dL_law_323 : decode cL_law 323 = .ok (.bipush 6, 2) := by decide +kernel
theorem dL_law_325 : decode cL_law 325 = .ok (.iconst 0, 1) := by decide +kernel
theorem dL_law_326 : decode cL_law 326 = .ok (.invokestatic 282, 3) := by decide +kernel
theorem dL_law_329 : decode cL_law 329 = .ok (.ifCond .eq 62, 3) := by decide +kernel
theorem dL_law_332 : decode cL_law 332 = .ok (.aload_n 1, 1) := by decide +kernel
theorem dL_law_333 : decode cL_law 333 = .ok (.bipush 15, 2) := by decide +kernel
theorem dL_law_335 : decode cL_law 335 = .ok (.invokestatic 205, 3) := by decide +kernel
theorem dL_law_338 : decode cL_law 338 = .ok (.bipush 8, 2) := by decide +kernel
theorem dL_law_340 : decode cL_law 340 = .ok (.if_icmp .ne 51, 3) := by decide +kernel
theorem dL_law_343 : decode cL_law 343 = .ok (.aload_n 1, 1) := by decide +kernel
theorem dL_law_344 : decode cL_law 344 = .ok (.bipush 100, 2) := by decide +kernel
theorem dL_law_346 : decode cL_law 346 = .ok (.invokestatic 247, 3) := by decide +kernel
theorem dL_law_349 : decode cL_law 349 = .ok (.sipush 160, 3) := by decide +kernel
theorem dL_law_352 : decode cL_law 352 = .ok (.if_icmp .ne 39, 3) := by decide +kernel
theorem dL_law_355 : decode cL_law 355 = .ok (.aload_n 1, 1) := by decide +kernel
theorem dL_law_356 : decode cL_law 356 = .ok (.bipush 41, 2) := by decide +kernel
theorem dL_law_358 : decode cL_law 358 = .ok (.invokestatic 247, 3) := by decide +kernel
theorem dL_law_361 : decode cL_law 361 = .ok (.sipush (-1001), 3) := by decide +kernel
theorem dL_law_364 : decode cL_law 364 = .ok (.if_icmp .ne 27, 3) := by decide +kernel
theorem dL_law_367 : decode cL_law 367 = .ok (.aload_n 1, 1) := by decide +kernel
theorem dL_law_368 : decode cL_law 368 = .ok (.iconst 2, 1) := by decide +kernel
theorem dL_law_369 : decode cL_law 369 = .ok (.sipush 200, 3) := by decide +kernel
theorem dL_law_372 : decode cL_law 372 = .ok (.iconst 0, 1) := by decide +kernel
theorem dL_law_373 : decode cL_law 373 = .ok (.invokestatic 282, 3) := by decide +kernel
theorem dL_law_376 : decode cL_law 376 = .ok (.ifCond .eq 15, 3) := by decide +kernel
theorem dL_law_379 : decode cL_law 379 = .ok (.aload_n 1, 1) := by decide +kernel
theorem dL_law_380 : decode cL_law 380 = .ok (.bipush 40, 2) := by decide +kernel
theorem dL_law_382 : decode cL_law 382 = .ok (.invokestatic 247, 3) := by decide +kernel
theorem dL_law_385 : decode cL_law 385 = .ok (.sipush 200, 3) := by decide +kernel
theorem dL_law_388 : decode cL_law 388 = .ok (.if_icmp .eq 5, 3) := by decide +kernel
theorem dL_law_391 : decode cL_law 391 = .ok (.iconst 0, 1) := by decide +kernel
theorem dL_law_392 : decode cL_law 392 = .ok (.ireturn, 1) := by decide +kernel
theorem dL_law_393 : decode cL_law 393 = .ok (.iconst 0, 1) := by decide +kernel
theorem dL_law_394 : decode cL_law 394 = .ok (.istore_n 2, 1) := by decide +kernel
theorem dL_law_395 : decode cL_law 395 = .ok (.iload_n 2, 1) := by decide +kernel
theorem dL_law_396 : decode cL_law 396 = .ok (.iconst 5, 1) := by decide +kernel
theorem dL_law_397 : decode cL_law 397 = .ok (.if_icmp .ge 22, 3) := by decide +kernel
theorem dL_law_400 : decode cL_law 400 = .ok (.aload_n 1, 1) := by decide +kernel
theorem dL_law_401 : decode cL_law 401 = .ok (.iload_n 2, 1) := by decide +kernel
theorem dL_law_402 : decode cL_law 402 = .ok (.invokestatic 241, 3) := by decide +kernel
theorem dL_law_405 : decode cL_law 405 = .ok (.iload_n 2, 1) := by decide +kernel
theorem dL_law_406 : decode cL_law 406 = .ok (.iconst 1, 1) := by decide +kernel
theorem dL_law_407 : decode cL_law 407 = .ok (.iadd, 1) := by decide +kernel
theorem dL_law_408 : decode cL_law 408 = .ok (.if_icmp .eq 5, 3) := by decide +kernel
theorem dL_law_411 : decode cL_law 411 = .ok (.iconst 0, 1) := by decide +kernel
theorem dL_law_412 : decode cL_law 412 = .ok (.ireturn, 1) := by decide +kernel
theorem dL_law_413 : decode cL_law 413 = .ok (.iinc 2 1, 3) := by decide +kernel
theorem dL_law_416 : decode cL_law 416 = .ok (.goto (-21), 3) := by decide +kernel
theorem dL_law_419 : decode cL_law 419 = .ok (.aload_n 1, 1) := by decide +kernel
theorem dL_law_420 : decode cL_law 420 = .ok (.iconst 4, 1) := by decide +kernel
theorem dL_law_421 : decode cL_law 421 = .ok (.invokestatic 241, 3) := by decide +kernel
theorem dL_law_424 : decode cL_law 424 = .ok (.sipush (-1001), 3) := by decide +kernel
theorem dL_law_427 : decode cL_law 427 = .ok (.if_icmp .ne 62, 3) := by decide +kernel
theorem dL_law_430 : decode cL_law 430 = .ok (.aload_n 1, 1) := by decide +kernel
theorem dL_law_431 : decode cL_law 431 = .ok (.bipush 7, 2) := by decide +kernel
theorem dL_law_433 : decode cL_law 433 = .ok (.iconst 4, 1) := by decide +kernel
theorem dL_law_434 : decode cL_law 434 = .ok (.iconst 0, 1) := by decide +kernel
theorem dL_law_435 : decode cL_law 435 = .ok (.invokestatic 282, 3) := by decide +kernel
theorem dL_law_438 : decode cL_law 438 = .ok (.ifCond .eq 51, 3) := by decide +kernel
theorem dL_law_441 : decode cL_law 441 = .ok (.aload_n 1, 1) := by decide +kernel
theorem dL_law_442 : decode cL_law 442 = .ok (.iconst 5, 1) := by decide +kernel
theorem dL_law_443 : decode cL_law 443 = .ok (.invokestatic 243, 3) := by decide +kernel
theorem dL_law_446 : decode cL_law 446 = .ok (.sipush (-1001), 3) := by decide +kernel
theorem dL_law_449 : decode cL_law 449 = .ok (.if_icmp .ne 40, 3) := by decide +kernel
theorem dL_law_452 : decode cL_law 452 = .ok (.aload_n 1, 1) := by decide +kernel
theorem dL_law_453 : decode cL_law 453 = .ok (.bipush 7, 2) := by decide +kernel
theorem dL_law_455 : decode cL_law 455 = .ok (.iconst 5, 1) := by decide +kernel
theorem dL_law_456 : decode cL_law 456 = .ok (.iconst 0, 1) := by decide +kernel
theorem dL_law_457 : decode cL_law 457 = .ok (.invokestatic 282, 3) := by decide +kernel
theorem dL_law_460 : decode cL_law 460 = .ok (.ifCond .eq 29, 3) := by decide +kernel
theorem dL_law_463 : decode cL_law 463 = .ok (.aload_n 1, 1) := by decide +kernel
theorem dL_law_464 : decode cL_law 464 = .ok (.bipush 99, 2) := by decide +kernel
theorem dL_law_466 : decode cL_law 466 = .ok (.invokestatic 232, 3) := by decide +kernel
theorem dL_law_469 : decode cL_law 469 = .ok (.ifCond .ne 20, 3) := by decide +kernel
theorem dL_law_472 : decode cL_law 472 = .ok (.aload_n 1, 1) := by decide +kernel
theorem dL_law_473 : decode cL_law 473 = .ok (.bipush 9, 2) := by decide +kernel
theorem dL_law_475 : decode cL_law 475 = .ok (.invokestatic 209, 3) := by decide +kernel
theorem dL_law_478 : decode cL_law 478 = .ok (.ifCond .ne 11, 3) := by decide +kernel
theorem dL_law_481 : decode cL_law 481 = .ok (.aload_n 1, 1) := by decide +kernel
theorem dL_law_482 : decode cL_law 482 = .ok (.iconst 0, 1) := by decide +kernel
theorem dL_law_483 : decode cL_law 483 = .ok (.invokestatic 209, 3) := by decide +kernel
theorem dL_law_486 : decode cL_law 486 = .ok (.ifCond .eq 5, 3) := by decide +kernel
theorem dL_law_489 : decode cL_law 489 = .ok (.iconst 0, 1) := by decide +kernel
theorem dL_law_490 : decode cL_law 490 = .ok (.ireturn, 1) := by decide +kernel
theorem dL_law_491 : decode cL_law 491 = .ok (.aload_n 1, 1) := by decide +kernel
theorem dL_law_492 : decode cL_law 492 = .ok (.bipush 8, 2) := by decide +kernel
theorem dL_law_494 : decode cL_law 494 = .ok (.invokestatic 181, 3) := by decide +kernel
theorem dL_law_497 : decode cL_law 497 = .ok (.ifCond .ne 201, 3) := by decide +kernel
theorem dL_law_500 : decode cL_law 500 = .ok (.aload_n 1, 1) := by decide +kernel
theorem dL_law_501 : decode cL_law 501 = .ok (.bipush 12, 2) := by decide +kernel
theorem dL_law_503 : decode cL_law 503 = .ok (.invokestatic 183, 3) := by decide +kernel
theorem dL_law_506 : decode cL_law 506 = .ok (.ifCond .ne 192, 3) := by decide +kernel
theorem dL_law_509 : decode cL_law 509 = .ok (.aload_n 1, 1) := by decide +kernel
theorem dL_law_510 : decode cL_law 510 = .ok (.iconst 2, 1) := by decide +kernel
theorem dL_law_511 : decode cL_law 511 = .ok (.invokestatic 205, 3) := by decide +kernel
theorem dL_law_514 : decode cL_law 514 = .ok (.bipush 16, 2) := by decide +kernel
theorem dL_law_516 : decode cL_law 516 = .ok (.if_icmp .ne 182, 3) := by decide +kernel
theorem dL_law_519 : decode cL_law 519 = .ok (.aload_n 1, 1) := by decide +kernel
theorem dL_law_520 : decode cL_law 520 = .ok (.iconst 5, 1) := by decide +kernel
theorem dL_law_521 : decode cL_law 521 = .ok (.iconst 0, 1) := by decide +kernel
theorem dL_law_522 : decode cL_law 522 = .ok (.invokestatic 224, 3) := by decide +kernel
theorem dL_law_525 : decode cL_law 525 = .ok (.bipush 74, 2) := by decide +kernel
theorem dL_law_527 : decode cL_law 527 = .ok (.if_icmp .ne 171, 3) := by decide +kernel
theorem dL_law_530 : decode cL_law 530 = .ok (.aload_n 1, 1) := by decide +kernel
theorem dL_law_531 : decode cL_law 531 = .ok (.iconst 4, 1) := by decide +kernel
theorem dL_law_532 : decode cL_law 532 = .ok (.iconst 0, 1) := by decide +kernel
theorem dL_law_533 : decode cL_law 533 = .ok (.invokestatic 224, 3) := by decide +kernel
theorem dL_law_536 : decode cL_law 536 = .ok (.bipush 95, 2) := by decide +kernel
theorem dL_law_538 : decode cL_law 538 = .ok (.if_icmp .ne 160, 3) := by decide +kernel
theorem dL_law_541 : decode cL_law 541 = .ok (.aload_n 1, 1) := by decide +kernel
theorem dL_law_542 : decode cL_law 542 = .ok (.iconst 0, 1) := by decide +kernel
theorem dL_law_543 : decode cL_law 543 = .ok (.iconst 1, 1) := by decide +kernel
theorem dL_law_544 : decode cL_law 544 = .ok (.invokestatic 224, 3) := by decide +kernel
theorem dL_law_547 : decode cL_law 547 = .ok (.bipush 18, 2) := by decide +kernel
theorem dL_law_549 : decode cL_law 549 = .ok (.if_icmp .ne 149, 3) := by decide +kernel
theorem dL_law_552 : decode cL_law 552 = .ok (.aload_n 1, 1) := by decide +kernel
theorem dL_law_553 : decode cL_law 553 = .ok (.iconst 0, 1) := by decide +kernel
theorem dL_law_554 : decode cL_law 554 = .ok (.invokestatic 226, 3) := by decide +kernel
theorem dL_law_557 : decode cL_law 557 = .ok (.iconst 1, 1) := by decide +kernel
theorem dL_law_558 : decode cL_law 558 = .ok (.if_icmp .ne 140, 3) := by decide +kernel
theorem dL_law_561 : decode cL_law 561 = .ok (.aload_n 1, 1) := by decide +kernel
theorem dL_law_562 : decode cL_law 562 = .ok (.bipush 9, 2) := by decide +kernel
theorem dL_law_564 : decode cL_law 564 = .ok (.iconst 0, 1) := by decide +kernel
theorem dL_law_565 : decode cL_law 565 = .ok (.invokestatic 217, 3) := by decide +kernel
theorem dL_law_568 : decode cL_law 568 = .ok (.ifCond .ne 130, 3) := by decide +kernel
theorem dL_law_571 : decode cL_law 571 = .ok (.aload_n 1, 1) := by decide +kernel
theorem dL_law_572 : decode cL_law 572 = .ok (.iconst 0, 1) := by decide +kernel
theorem dL_law_573 : decode cL_law 573 = .ok (.iconst 3, 1) := by decide +kernel
theorem dL_law_574 : decode cL_law 574 = .ok (.invokestatic 217, 3) := by decide +kernel
theorem dL_law_577 : decode cL_law 577 = .ok (.iconst 1, 1) := by decide +kernel
theorem dL_law_578 : decode cL_law 578 = .ok (.if_icmp .ne 120, 3) := by decide +kernel
theorem dL_law_581 : decode cL_law 581 = .ok (.aload_n 1, 1) := by decide +kernel
theorem dL_law_582 : decode cL_law 582 = .ok (.iconst 0, 1) := by decide +kernel
theorem dL_law_583 : decode cL_law 583 = .ok (.iconst 0, 1) := by decide +kernel
theorem dL_law_584 : decode cL_law 584 = .ok (.invokestatic 213, 3) := by decide +kernel
theorem dL_law_587 : decode cL_law 587 = .ok (.bipush 31, 2) := by decide +kernel
theorem dL_law_589 : decode cL_law 589 = .ok (.if_icmp .ne 109, 3) := by decide +kernel
theorem dL_law_592 : decode cL_law 592 = .ok (.aload_n 1, 1) := by decide +kernel
theorem dL_law_593 : decode cL_law 593 = .ok (.bipush 8, 2) := by decide +kernel
theorem dL_law_595 : decode cL_law 595 = .ok (.iconst 0, 1) := by decide +kernel
theorem dL_law_596 : decode cL_law 596 = .ok (.invokestatic 213, 3) := by decide +kernel
theorem dL_law_599 : decode cL_law 599 = .ok (.bipush 91, 2) := by decide +kernel
theorem dL_law_601 : decode cL_law 601 = .ok (.if_icmp .ne 97, 3) := by decide +kernel
theorem dL_law_604 : decode cL_law 604 = .ok (.aload_n 1, 1) := by decide +kernel
theorem dL_law_605 : decode cL_law 605 = .ok (.iconst 0, 1) := by decide +kernel
theorem dL_law_606 : decode cL_law 606 = .ok (.invokestatic 245, 3) := by decide +kernel
theorem dL_law_609 : decode cL_law 609 = .ok (.sipush 191, 3) := by decide +kernel
theorem dL_law_612 : decode cL_law 612 = .ok (.if_icmp .ne 86, 3) := by decide +kernel
theorem dL_law_615 : decode cL_law 615 = .ok (.aload_n 1, 1) := by decide +kernel
theorem dL_law_616 : decode cL_law 616 = .ok (.bipush 12, 2) := by decide +kernel
theorem dL_law_618 : decode cL_law 618 = .ok (.invokestatic 205, 3) := by decide +kernel
theorem dL_law_621 : decode cL_law 621 = .ok (.bipush 9, 2) := by decide +kernel
theorem dL_law_623 : decode cL_law 623 = .ok (.if_icmp .ne 75, 3) := by decide +kernel
theorem dL_law_626 : decode cL_law 626 = .ok (.aload_n 1, 1) := by decide +kernel
theorem dL_law_627 : decode cL_law 627 = .ok (.iconst 1, 1) := by decide +kernel
theorem dL_law_628 : decode cL_law 628 = .ok (.invokestatic 183, 3) := by decide +kernel
theorem dL_law_631 : decode cL_law 631 = .ok (.iconst 5, 1) := by decide +kernel
theorem dL_law_632 : decode cL_law 632 = .ok (.if_icmp .ne 66, 3) := by decide +kernel
theorem dL_law_635 : decode cL_law 635 = .ok (.aload_n 1, 1) := by decide +kernel
theorem dL_law_636 : decode cL_law 636 = .ok (.bipush 10, 2) := by decide +kernel
theorem dL_law_638 : decode cL_law 638 = .ok (.invokestatic 205, 3) := by decide +kernel
theorem dL_law_641 : decode cL_law 641 = .ok (.iconst 5, 1) := by decide +kernel
theorem dL_law_642 : decode cL_law 642 = .ok (.if_icmp .ne 56, 3) := by decide +kernel
theorem dL_law_645 : decode cL_law 645 = .ok (.aload_n 1, 1) := by decide +kernel
theorem dL_law_646 : decode cL_law 646 = .ok (.bipush 9, 2) := by decide +kernel
theorem dL_law_648 : decode cL_law 648 = .ok (.invokestatic 205, 3) := by decide +kernel
theorem dL_law_651 : decode cL_law 651 = .ok (.iconst 5, 1) := by decide +kernel
theorem dL_law_652 : decode cL_law 652 = .ok (.if_icmp .ne 46, 3) := by decide +kernel
theorem dL_law_655 : decode cL_law 655 = .ok (.aload_n 1, 1) := by decide +kernel
theorem dL_law_656 : decode cL_law 656 = .ok (.iconst 1, 1) := by decide +kernel
theorem dL_law_657 : decode cL_law 657 = .ok (.invokestatic 243, 3) := by decide +kernel
theorem dL_law_660 : decode cL_law 660 = .ok (.iconst 4, 1) := by decide +kernel
theorem dL_law_661 : decode cL_law 661 = .ok (.if_icmp .ne 37, 3) := by decide +kernel
theorem dL_law_664 : decode cL_law 664 = .ok (.aload_n 1, 1) := by decide +kernel
theorem dL_law_665 : decode cL_law 665 = .ok (.iconst 1, 1) := by decide +kernel
theorem dL_law_666 : decode cL_law 666 = .ok (.invokestatic 241, 3) := by decide +kernel
theorem dL_law_669 : decode cL_law 669 = .ok (.sipush (-1001), 3) := by decide +kernel
theorem dL_law_672 : decode cL_law 672 = .ok (.if_icmp .ne 26, 3) := by decide +kernel
theorem dL_law_675 : decode cL_law 675 = .ok (.aload_n 1, 1) := by decide +kernel
theorem dL_law_676 : decode cL_law 676 = .ok (.bipush 8, 2) := by decide +kernel
theorem dL_law_678 : decode cL_law 678 = .ok (.bipush 95, 2) := by decide +kernel
theorem dL_law_680 : decode cL_law 680 = .ok (.iconst 0, 1) := by decide +kernel
theorem dL_law_681 : decode cL_law 681 = .ok (.invokestatic 282, 3) := by decide +kernel
theorem dL_law_684 : decode cL_law 684 = .ok (.ifCond .eq 14, 3) := by decide +kernel
theorem dL_law_687 : decode cL_law 687 = .ok (.aload_n 1, 1) := by decide +kernel
theorem dL_law_688 : decode cL_law 688 = .ok (.iconst 5, 1) := by decide +kernel
theorem dL_law_689 : decode cL_law 689 = .ok (.iconst 0, 1) := by decide +kernel
theorem dL_law_690 : decode cL_law 690 = .ok (.invokestatic 224, 3) := by decide +kernel
theorem dL_law_693 : decode cL_law 693 = .ok (.bipush 74, 2) := by decide +kernel
theorem dL_law_695 : decode cL_law 695 = .ok (.if_icmp .eq 5, 3) := by decide +kernel
theorem dL_law_698 : decode cL_law 698 = .ok (.iconst 0, 1) := by decide +kernel
theorem dL_law_699 : decode cL_law 699 = .ok (.ireturn, 1) := by decide +kernel
theorem dL_law_700 : decode cL_law 700 = .ok (.aload_n 1, 1) := by decide +kernel
theorem dL_law_701 : decode cL_law 701 = .ok (.bipush 95, 2) := by decide +kernel
theorem dL_law_703 : decode cL_law 703 = .ok (.invokestatic 239, 3) := by decide +kernel
theorem dL_law_706 : decode cL_law 706 = .ok (.iconst 5, 1) := by decide +kernel
theorem dL_law_707 : decode cL_law 707 = .ok (.if_icmp .ne 73, 3) := by decide +kernel
theorem dL_law_710 : decode cL_law 710 = .ok (.aload_n 1, 1) := by decide +kernel
theorem dL_law_711 : decode cL_law 711 = .ok (.iconst 0, 1) := by decide +kernel
theorem dL_law_712 : decode cL_law 712 = .ok (.iconst 0, 1) := by decide +kernel
theorem dL_law_713 : decode cL_law 713 = .ok (.iconst 1, 1) := by decide +kernel
theorem dL_law_714 : decode cL_law 714 = .ok (.invokestatic 234, 3) := by decide +kernel
theorem dL_law_717 : decode cL_law 717 = .ok (.sipush (-1001), 3) := by decide +kernel
theorem dL_law_720 : decode cL_law 720 = .ok (.if_icmp .ne 60, 3) := by decide +kernel
theorem dL_law_723 : decode cL_law 723 = .ok (.aload_n 1, 1) := by decide +kernel
theorem dL_law_724 : decode cL_law 724 = .ok (.iconst 0, 1) := by decide +kernel
theorem dL_law_725 : decode cL_law 725 = .ok (.invokestatic 158, 3) := by decide +kernel
theorem dL_law_728 : decode cL_law 728 = .ok (.iconst 5, 1) := by decide +kernel
theorem dL_law_729 : decode cL_law 729 = .ok (.if_icmp .ne 51, 3) := by decide +kernel
theorem dL_law_732 : decode cL_law 732 = .ok (.aload_n 1, 1) := by decide +kernel
theorem dL_law_733 : decode cL_law 733 = .ok (.invokestatic 294, 3) := by decide +kernel
theorem dL_law_736 : decode cL_law 736 = .ok (.bipush 7, 2) := by decide +kernel
theorem dL_law_738 : decode cL_law 738 = .ok (.if_icmp .ne 42, 3) := by decide +kernel
theorem dL_law_741 : decode cL_law 741 = .ok (.aload_n 1, 1) := by decide +kernel
theorem dL_law_742 : decode cL_law 742 = .ok (.bipush 9, 2) := by decide +kernel
theorem dL_law_744 : decode cL_law 744 = .ok (.invokestatic 205, 3) := by decide +kernel
theorem dL_law_747 : decode cL_law 747 = .ok (.iconst 4, 1) := by decide +kernel
theorem dL_law_748 : decode cL_law 748 = .ok (.if_icmp .ne 32, 3) := by decide +kernel
theorem dL_law_751 : decode cL_law 751 = .ok (.aload_n 1, 1) := by decide +kernel
theorem dL_law_752 : decode cL_law 752 = .ok (.invokestatic 294, 3) := by decide +kernel
theorem dL_law_755 : decode cL_law 755 = .ok (.bipush 6, 2) := by decide +kernel
theorem dL_law_757 : decode cL_law 757 = .ok (.if_icmp .ne 23, 3) := by decide +kernel
theorem dL_law_760 : decode cL_law 760 = .ok (.aload_n 1, 1) := by decide +kernel
theorem dL_law_761 : decode cL_law 761 = .ok (.bipush 9, 2) := by decide +kernel
theorem dL_law_763 : decode cL_law 763 = .ok (.invokestatic 205, 3) := by decide +kernel
theorem dL_law_766 : decode cL_law 766 = .ok (.iconst 5, 1) := by decide +kernel
theorem dL_law_767 : decode cL_law 767 = .ok (.if_icmp .ne 13, 3) := by decide +kernel
theorem dL_law_770 : decode cL_law 770 = .ok (.aload_n 1, 1) := by decide +kernel
theorem dL_law_771 : decode cL_law 771 = .ok (.bipush 10, 2) := by decide +kernel
theorem dL_law_773 : decode cL_law 773 = .ok (.invokestatic 205, 3) := by decide +kernel
theorem dL_law_776 : decode cL_law 776 = .ok (.iconst 5, 1) := by decide +kernel
theorem dL_law_777 : decode cL_law 777 = .ok (.if_icmp .eq 5, 3) := by decide +kernel
theorem dL_law_780 : decode cL_law 780 = .ok (.iconst 0, 1) := by decide +kernel
theorem dL_law_781 : decode cL_law 781 = .ok (.ireturn, 1) := by decide +kernel
theorem dL_law_782 : decode cL_law 782 = .ok (.aload_n 1, 1) := by decide +kernel
theorem dL_law_783 : decode cL_law 783 = .ok (.invokestatic 296, 3) := by decide +kernel
theorem dL_law_786 : decode cL_law 786 = .ok (.ifCond .ne 32, 3) := by decide +kernel
theorem dL_law_789 : decode cL_law 789 = .ok (.aload_n 1, 1) := by decide +kernel
theorem dL_law_790 : decode cL_law 790 = .ok (.iconst 4, 1) := by decide +kernel
theorem dL_law_791 : decode cL_law 791 = .ok (.invokestatic 205, 3) := by decide +kernel
theorem dL_law_794 : decode cL_law 794 = .ok (.ifCond .ne 24, 3) := by decide +kernel
theorem dL_law_797 : decode cL_law 797 = .ok (.aload_n 1, 1) := by decide +kernel
theorem dL_law_798 : decode cL_law 798 = .ok (.bipush 11, 2) := by decide +kernel
theorem dL_law_800 : decode cL_law 800 = .ok (.invokestatic 205, 3) := by decide +kernel
theorem dL_law_803 : decode cL_law 803 = .ok (.bipush 60, 2) := by decide +kernel
theorem dL_law_805 : decode cL_law 805 = .ok (.if_icmp .ne 13, 3) := by decide +kernel
theorem dL_law_808 : decode cL_law 808 = .ok (.aload_n 1, 1) := by decide +kernel
theorem dL_law_809 : decode cL_law 809 = .ok (.invokestatic 294, 3) := by decide +kernel
theorem dL_law_812 : decode cL_law 812 = .ok (.sipush (-1001), 3) := by decide +kernel
theorem dL_law_815 : decode cL_law 815 = .ok (.if_icmp .eq 5, 3) := by decide +kernel
theorem dL_law_818 : decode cL_law 818 = .ok (.iconst 0, 1) := by decide +kernel
theorem dL_law_819 : decode cL_law 819 = .ok (.ireturn, 1) := by decide +kernel
theorem dL_law_820 : decode cL_law 820 = .ok (.new 8, 3) := by decide +kernel
theorem dL_law_823 : decode cL_law 823 = .ok (.dup, 1) := by decide +kernel
theorem dL_law_824 : decode cL_law 824 = .ok (.invokespecial 293, 3) := by decide +kernel
theorem dL_law_827 : decode cL_law 827 = .ok (.astore_n 2, 1) := by decide +kernel
theorem dL_law_828 : decode cL_law 828 = .ok (.aload_n 2, 1) := by decide +kernel
theorem dL_law_829 : decode cL_law 829 = .ok (.aload_n 0, 1) := by decide +kernel
theorem dL_law_830 : decode cL_law 830 = .ok (.invokestatic 301, 3) := by decide +kernel
theorem dL_law_833 : decode cL_law 833 = .ok (.ifCond .ne 5, 3) := by decide +kernel
theorem dL_law_836 : decode cL_law 836 = .ok (.iconst 0, 1) := by decide +kernel
theorem dL_law_837 : decode cL_law 837 = .ok (.ireturn, 1) := by decide +kernel
theorem dL_law_838 : decode cL_law 838 = .ok (.iconst 0, 1) := by decide +kernel
theorem dL_law_839 : decode cL_law 839 = .ok (.istore_n 3, 1) := by decide +kernel
theorem dL_law_840 : decode cL_law 840 = .ok (.iload_n 3, 1) := by decide +kernel
theorem dL_law_841 : decode cL_law 841 = .ok (.bipush 6, 2) := by decide +kernel
theorem dL_law_843 : decode cL_law 843 = .ok (.if_icmp .ge 61, 3) := by decide +kernel
theorem dL_law_846 : decode cL_law 846 = .ok (.aload_n 2, 1) := by decide +kernel
theorem dL_law_847 : decode cL_law 847 = .ok (.iload_n 3, 1) := by decide +kernel
theorem dL_law_848 : decode cL_law 848 = .ok (.aload_n 0, 1) := by decide +kernel
theorem dL_law_849 : decode cL_law 849 = .ok (.bipush 24, 2) := by decide +kernel
theorem dL_law_851 : decode cL_law 851 = .ok (.iload_n 3, 1) := by decide +kernel
theorem dL_law_852 : decode cL_law 852 = .ok (.iadd, 1) := by decide +kernel
theorem dL_law_853 : decode cL_law 853 = .ok (.invokestatic 165, 3) := by decide +kernel
theorem dL_law_856 : decode cL_law 856 = .ok (.iconst 3, 1) := by decide +kernel
theorem dL_law_857 : decode cL_law 857 = .ok (.invokestatic 169, 3) := by decide +kernel
theorem dL_law_860 : decode cL_law 860 = .ok (.aload_n 0, 1) := by decide +kernel
theorem dL_law_861 : decode cL_law 861 = .ok (.bipush 24, 2) := by decide +kernel
theorem dL_law_863 : decode cL_law 863 = .ok (.iload_n 3, 1) := by decide +kernel
theorem dL_law_864 : decode cL_law 864 = .ok (.iadd, 1) := by decide +kernel
theorem dL_law_865 : decode cL_law 865 = .ok (.invokestatic 165, 3) := by decide +kernel
theorem dL_law_868 : decode cL_law 868 = .ok (.iconst 2, 1) := by decide +kernel
theorem dL_law_869 : decode cL_law 869 = .ok (.ishr, 1) := by decide +kernel
theorem dL_law_870 : decode cL_law 870 = .ok (.iconst 2, 1) := by decide +kernel
theorem dL_law_871 : decode cL_law 871 = .ok (.invokestatic 169, 3) := by decide +kernel
theorem dL_law_874 : decode cL_law 874 = .ok (.invokestatic 234, 3) := by decide +kernel
theorem dL_law_877 : decode cL_law 877 = .ok (.istore 4, 2) := by decide +kernel
theorem dL_law_879 : decode cL_law 879 = .ok (.iload 4, 2) := by decide +kernel
theorem dL_law_881 : decode cL_law 881 = .ok (.sipush (-1001), 3) := by decide +kernel
theorem dL_law_884 : decode cL_law 884 = .ok (.if_icmp .ne 14, 3) := by decide +kernel
theorem dL_law_887 : decode cL_law 887 = .ok (.aload_n 2, 1) := by decide +kernel
theorem dL_law_888 : decode cL_law 888 = .ok (.iconst 0, 1) := by decide +kernel
theorem dL_law_889 : decode cL_law 889 = .ok (.invokestatic 158, 3) := by decide +kernel
theorem dL_law_892 : decode cL_law 892 = .ok (.iconst 5, 1) := by decide +kernel
theorem dL_law_893 : decode cL_law 893 = .ok (.if_icmp .eq 5, 3) := by decide +kernel
theorem dL_law_896 : decode cL_law 896 = .ok (.iconst 0, 1) := by decide +kernel
theorem dL_law_897 : decode cL_law 897 = .ok (.ireturn, 1) := by decide +kernel
theorem dL_law_898 : decode cL_law 898 = .ok (.iinc 3 1, 3) := by decide +kernel
theorem dL_law_901 : decode cL_law 901 = .ok (.goto (-61), 3) := by decide +kernel
theorem dL_law_904 : decode cL_law 904 = .ok (.aload_n 2, 1) := by decide +kernel
theorem dL_law_905 : decode cL_law 905 = .ok (.invokestatic 278, 3) := by decide +kernel
theorem dL_law_908 : decode cL_law 908 = .ok (.lstore_n 3, 1) := by decide +kernel
theorem dL_law_909 : decode cL_law 909 = .ok (.aload_n 2, 1) := by decide +kernel
theorem dL_law_910 : decode cL_law 910 = .ok (.invokestatic 278, 3) := by decide +kernel
theorem dL_law_913 : decode cL_law 913 = .ok (.lload_n 3, 1) := by decide +kernel
theorem dL_law_914 : decode cL_law 914 = .ok (.lcmp, 1) := by decide +kernel
theorem dL_law_915 : decode cL_law 915 = .ok (.ifCond .ne 10, 3) := by decide +kernel
theorem dL_law_918 : decode cL_law 918 = .ok (.aload_n 2, 1) := by decide +kernel
theorem dL_law_919 : decode cL_law 919 = .ok (.invokestatic 305, 3) := by decide +kernel
theorem dL_law_922 : decode cL_law 922 = .ok (.ifCond .ne 5, 3) := by decide +kernel
theorem dL_law_925 : decode cL_law 925 = .ok (.iconst 0, 1) := by decide +kernel
theorem dL_law_926 : decode cL_law 926 = .ok (.ireturn, 1) := by decide +kernel
theorem dL_law_927 : decode cL_law 927 = .ok (.aload_n 2, 1) := by decide +kernel
theorem dL_law_928 : decode cL_law 928 = .ok (.invokevirtual 298, 3) := by decide +kernel
theorem dL_law_931 : decode cL_law 931 = .ok (.istore 5, 2) := by decide +kernel
theorem dL_law_933 : decode cL_law 933 = .ok (.iload 5, 2) := by decide +kernel
theorem dL_law_935 : decode cL_law 935 = .ok (.aload_n 2, 1) := by decide +kernel
theorem dL_law_936 : decode cL_law 936 = .ok (.iconst 0, 1) := by decide +kernel
theorem dL_law_937 : decode cL_law 937 = .ok (.invokestatic 205, 3) := by decide +kernel
theorem dL_law_940 : decode cL_law 940 = .ok (.if_icmp .ne 12, 3) := by decide +kernel
theorem dL_law_943 : decode cL_law 943 = .ok (.aload_n 2, 1) := by decide +kernel
theorem dL_law_944 : decode cL_law 944 = .ok (.invokestatic 278, 3) := by decide +kernel
theorem dL_law_947 : decode cL_law 947 = .ok (.lload_n 3, 1) := by decide +kernel
theorem dL_law_948 : decode cL_law 948 = .ok (.lcmp, 1) := by decide +kernel
theorem dL_law_949 : decode cL_law 949 = .ok (.ifCond .eq 5, 3) := by decide +kernel
theorem dL_law_952 : decode cL_law 952 = .ok (.iconst 0, 1) := by decide +kernel
theorem dL_law_953 : decode cL_law 953 = .ok (.ireturn, 1) := by decide +kernel
theorem dL_law_954 : decode cL_law 954 = .ok (.bipush 13, 2) := by decide +kernel
theorem dL_law_956 : decode cL_law 956 = .ok (.newarray .long, 2) := by decide +kernel
theorem dL_law_958 : decode cL_law 958 = .ok (.astore 6, 2) := by decide +kernel
theorem dL_law_960 : decode cL_law 960 = .ok (.iconst 0, 1) := by decide +kernel
theorem dL_law_961 : decode cL_law 961 = .ok (.istore 7, 2) := by decide +kernel
theorem dL_law_963 : decode cL_law 963 = .ok (.iconst 0, 1) := by decide +kernel
theorem dL_law_964 : decode cL_law 964 = .ok (.istore 8, 2) := by decide +kernel
theorem dL_law_966 : decode cL_law 966 = .ok (.iload 8, 2) := by decide +kernel
theorem dL_law_968 : decode cL_law 968 = .ok (.bipush 12, 2) := by decide +kernel
theorem dL_law_970 : decode cL_law 970 = .ok (.if_icmp .ge 63, 3) := by decide +kernel
theorem dL_law_973 : decode cL_law 973 = .ok (.aload_n 2, 1) := by decide +kernel
theorem dL_law_974 : decode cL_law 974 = .ok (.invokestatic 278, 3) := by decide +kernel
theorem dL_law_977 : decode cL_law 977 = .ok (.lstore 9, 2) := by decide +kernel
theorem dL_law_979 : decode cL_law 979 = .ok (.aload_n 2, 1) := by decide +kernel
theorem dL_law_980 : decode cL_law 980 = .ok (.aload_n 0, 1) := by decide +kernel
theorem dL_law_981 : decode cL_law 981 = .ok (.bipush 20, 2) := by decide +kernel
theorem dL_law_983 : decode cL_law 983 = .ok (.iload 8, 2) := by decide +kernel
theorem dL_law_985 : decode cL_law 985 = .ok (.iadd, 1) := by decide +kernel
theorem dL_law_986 : decode cL_law 986 = .ok (.invokestatic 165, 3) := by decide +kernel
theorem dL_law_989 : decode cL_law 989 = .ok (.iload 8, 2) := by decide +kernel
theorem dL_law_991 : decode cL_law 991 = .ok (.sipush 977, 3) := by decide +kernel
theorem dL_law_994 : decode cL_law 994 = .ok (.imul, 1) := by decide +kernel
theorem dL_law_995 : decode cL_law 995 = .ok (.ixor, 1) := by decide +kernel
theorem dL_law_996 : decode cL_law 996 = .ok (.invokestatic 309, 3) := by decide +kernel
theorem dL_law_999 : decode cL_law 999 = .ok (.ifCond .eq 16, 3) := by decide +kernel
theorem dL_law_1002 : decode cL_law 1002 = .ok (.aload 6, 2) := by decide +kernel
theorem dL_law_1004 : decode cL_law 1004 = .ok (.iload 7, 2) := by decide +kernel
theorem dL_law_1006 : decode cL_law 1006 = .ok (.iinc 7 1, 3) := by decide +kernel
theorem dL_law_1009 : decode cL_law 1009 = .ok (.lload 9, 2) := by decide +kernel
theorem dL_law_1011 : decode cL_law 1011 = .ok (.lastore, 1) := by decide +kernel
theorem dL_law_1012 : decode cL_law 1012 = .ok (.goto 15, 3) := by decide +kernel
theorem dL_law_1015 : decode cL_law 1015 = .ok (.aload_n 2, 1) := by decide +kernel
theorem dL_law_1016 : decode cL_law 1016 = .ok (.invokestatic 278, 3) := by decide +kernel
theorem dL_law_1019 : decode cL_law 1019 = .ok (.lload 9, 2) := by decide +kernel
theorem dL_law_1021 : decode cL_law 1021 = .ok (.lcmp, 1) := by decide +kernel
theorem dL_law_1022 : decode cL_law 1022 = .ok (.ifCond .eq 5, 3) := by decide +kernel
theorem dL_law_1025 : decode cL_law 1025 = .ok (.iconst 0, 1) := by decide +kernel
theorem dL_law_1026 : decode cL_law 1026 = .ok (.ireturn, 1) := by decide +kernel
theorem dL_law_1027 : decode cL_law 1027 = .ok (.iinc 8 1, 3) := by decide +kernel
theorem dL_law_1030 : decode cL_law 1030 = .ok (.goto (-64), 3) := by decide +kernel
theorem dL_law_1033 : decode cL_law 1033 = .ok (.bipush 8, 2) := by decide +kernel
theorem dL_law_1035 : decode cL_law 1035 = .ok (.iload 7, 2) := by decide +kernel
theorem dL_law_1037 : decode cL_law 1037 = .ok (.invokestatic 313, 3) := by decide +kernel
theorem dL_law_1040 : decode cL_law 1040 = .ok (.istore 8, 2) := by decide +kernel
theorem dL_law_1042 : decode cL_law 1042 = .ok (.iconst 1, 1) := by decide +kernel
theorem dL_law_1043 : decode cL_law 1043 = .ok (.istore 9, 2) := by decide +kernel
theorem dL_law_1045 : decode cL_law 1045 = .ok (.iload 9, 2) := by decide +kernel
theorem dL_law_1047 : decode cL_law 1047 = .ok (.iload 8, 2) := by decide +kernel
theorem dL_law_1049 : decode cL_law 1049 = .ok (.if_icmp .gt 53, 3) := by decide +kernel
theorem dL_law_1052 : decode cL_law 1052 = .ok (.aload_n 2, 1) := by decide +kernel
theorem dL_law_1053 : decode cL_law 1053 = .ok (.invokestatic 294, 3) := by decide +kernel
theorem dL_law_1056 : decode cL_law 1056 = .ok (.istore 10, 2) := by decide +kernel
theorem dL_law_1058 : decode cL_law 1058 = .ok (.iload 10, 2) := by decide +kernel
theorem dL_law_1060 : decode cL_law 1060 = .ok (.iload 8, 2) := by decide +kernel
theorem dL_law_1062 : decode cL_law 1062 = .ok (.iload 9, 2) := by decide +kernel
theorem dL_law_1064 : decode cL_law 1064 = .ok (.isub, 1) := by decide +kernel
theorem dL_law_1065 : decode cL_law 1065 = .ok (.if_icmp .lt 29, 3) := by decide +kernel
theorem dL_law_1068 : decode cL_law 1068 = .ok (.iload 10, 2) := by decide +kernel
theorem dL_law_1070 : decode cL_law 1070 = .ok (.bipush 8, 2) := by decide +kernel
theorem dL_law_1072 : decode cL_law 1072 = .ok (.iload 9, 2) := by decide +kernel
theorem dL_law_1074 : decode cL_law 1074 = .ok (.isub, 1) := by decide +kernel
theorem dL_law_1075 : decode cL_law 1075 = .ok (.if_icmp .gt 19, 3) := by decide +kernel
theorem dL_law_1078 : decode cL_law 1078 = .ok (.aload_n 2, 1) := by decide +kernel
theorem dL_law_1079 : decode cL_law 1079 = .ok (.invokestatic 278, 3) := by decide +kernel
theorem dL_law_1082 : decode cL_law 1082 = .ok (.aload 6, 2) := by decide +kernel
theorem dL_law_1084 : decode cL_law 1084 = .ok (.iload 7, 2) := by decide +kernel
theorem dL_law_1086 : decode cL_law 1086 = .ok (.iload 9, 2) := by decide +kernel
theorem dL_law_1088 : decode cL_law 1088 = .ok (.isub, 1) := by decide +kernel
theorem dL_law_1089 : decode cL_law 1089 = .ok (.laload, 1) := by decide +kernel
theorem dL_law_1090 : decode cL_law 1090 = .ok (.lcmp, 1) := by decide +kernel
theorem dL_law_1091 : decode cL_law 1091 = .ok (.ifCond .eq 5, 3) := by decide +kernel
theorem dL_law_1094 : decode cL_law 1094 = .ok (.iconst 0, 1) := by decide +kernel
theorem dL_law_1095 : decode cL_law 1095 = .ok (.ireturn, 1) := by decide +kernel
theorem dL_law_1096 : decode cL_law 1096 = .ok (.iinc 9 1, 3) := by decide +kernel
theorem dL_law_1099 : decode cL_law 1099 = .ok (.goto (-54), 3) := by decide +kernel
theorem dL_law_1102 : decode cL_law 1102 = .ok (.aload_n 2, 1) := by decide +kernel
theorem dL_law_1103 : decode cL_law 1103 = .ok (.invokestatic 296, 3) := by decide +kernel
theorem dL_law_1106 : decode cL_law 1106 = .ok (.iload 5, 2) := by decide +kernel
theorem dL_law_1108 : decode cL_law 1108 = .ok (.if_icmp .ne 44, 3) := by decide +kernel
theorem dL_law_1111 : decode cL_law 1111 = .ok (.aload_n 2, 1) := by decide +kernel
theorem dL_law_1112 : decode cL_law 1112 = .ok (.invokestatic 294, 3) := by decide +kernel
theorem dL_law_1115 : decode cL_law 1115 = .ok (.sipush (-1001), 3) := by decide +kernel
theorem dL_law_1118 : decode cL_law 1118 = .ok (.if_icmp .ne 34, 3) := by decide +kernel
theorem dL_law_1121 : decode cL_law 1121 = .ok (.aload_n 2, 1) := by decide +kernel
theorem dL_law_1122 : decode cL_law 1122 = .ok (.invokestatic 278, 3) := by decide +kernel
theorem dL_law_1125 : decode cL_law 1125 = .ok (.lload_n 3, 1) := by decide +kernel
theorem dL_law_1126 : decode cL_law 1126 = .ok (.lcmp, 1) := by decide +kernel
theorem dL_law_1127 : decode cL_law 1127 = .ok (.ifCond .ne 25, 3) := by decide +kernel
theorem dL_law_1130 : decode cL_law 1130 = .ok (.aload_n 2, 1) := by decide +kernel
theorem dL_law_1131 : decode cL_law 1131 = .ok (.invokestatic 296, 3) := by decide +kernel
theorem dL_law_1134 : decode cL_law 1134 = .ok (.iload 5, 2) := by decide +kernel
theorem dL_law_1136 : decode cL_law 1136 = .ok (.if_icmp .ne 16, 3) := by decide +kernel
theorem dL_law_1139 : decode cL_law 1139 = .ok (.aload_n 2, 1) := by decide +kernel
theorem dL_law_1140 : decode cL_law 1140 = .ok (.invokestatic 278, 3) := by decide +kernel
theorem dL_law_1143 : decode cL_law 1143 = .ok (.lload_n 3, 1) := by decide +kernel
theorem dL_law_1144 : decode cL_law 1144 = .ok (.lcmp, 1) := by decide +kernel
theorem dL_law_1145 : decode cL_law 1145 = .ok (.ifCond .ne 7, 3) := by decide +kernel
theorem dL_law_1148 : decode cL_law 1148 = .ok (.iconst 1, 1) := by decide +kernel
theorem dL_law_1149 : decode cL_law 1149 = .ok (.goto 4, 3) := by decide +kernel
theorem dL_law_1152 : decode cL_law 1152 = .ok (.iconst 0, 1) := by decide +kernel
theorem dL_law_1153 : decode cL_law 1153 = .ok (.ireturn, 1) := by decide +kernel
end
section
/-- the words that the tables and the private methods give, but what a changed heap or a warmer machine may change -/
def lw_all : List Cond := lw_tbl.filter goodWord
theorem lw_in {w : Cond} (h : w ∈ lw_tbl) (hg : goodWord w = true) : w ∈ lw_all := List.mem_filter.mpr ⟨h, hg⟩
theorem lw_all_tbl {w : Cond} (h : w ∈ lw_all) : w ∈ lw_tbl := (List.mem_filter.mp h).1
theorem lw_all_good {w : Cond} (h : w ∈ lw_all) : (w.onTables && w.keeps) = true ∨ ∃ ty, w = .arrayClass ty := good_of_word (List.mem_filter.mp h).2
theorem qs_X5_begin : Cond.selects RX5 yX5_begin yX5_begin ∈ lw_all := lw_in (List.mem_of_getElem? (i := 0) (by decide +kernel)) (by decide +kernel)
theorem qs_X5_driveStake : Cond.selects RX5 yX5_driveStake yX5_driveStake ∈ lw_all := lw_in (List.mem_of_getElem? (i := 1) (by decide +kernel)) (by decide +kernel)
theorem qs_X5_refuse : Cond.selects RX5 yX5_refuse yX5_refuse ∈ lw_all := lw_in (List.mem_of_getElem? (i := 2) (by decide +kernel)) (by decide +kernel)
theorem qs_X5_settle : Cond.selects RX5 yX5_settle yX5_settle ∈ lw_all := lw_in (List.mem_of_getElem? (i := 3) (by decide +kernel)) (by decide +kernel)
theorem qs_X1_slot : Cond.selects RX1 yX1_slot yX1_slot ∈ lw_all := lw_in (List.mem_of_getElem? (i := 5) (by decide +kernel)) (by decide +kernel)
theorem qs_X5_setUpPost : Cond.selects RX5 yX5_setUpPost yX5_setUpPost ∈ lw_all := lw_in (List.mem_of_getElem? (i := 6) (by decide +kernel)) (by decide +kernel)
theorem qs_X5_addSheet : Cond.selects RX5 yX5_addSheet yX5_addSheet ∈ lw_all := lw_in (List.mem_of_getElem? (i := 7) (by decide +kernel)) (by decide +kernel)
theorem qs_X5_setDayHeat : Cond.selects RX5 yX5_setDayHeat yX5_setDayHeat ∈ lw_all := lw_in (List.mem_of_getElem? (i := 8) (by decide +kernel)) (by decide +kernel)
theorem qs_X5_drawSighted : Cond.selects RX5 yX5_drawSighted yX5_drawSighted ∈ lw_all := lw_in (List.mem_of_getElem? (i := 9) (by decide +kernel)) (by decide +kernel)
theorem qs_X5_bringCamel : Cond.selects RX5 yX5_bringCamel yX5_bringCamel ∈ lw_all := lw_in (List.mem_of_getElem? (i := 10) (by decide +kernel)) (by decide +kernel)
theorem qs_X5_ringBell : Cond.selects RX5 yX5_ringBell yX5_ringBell ∈ lw_all := lw_in (List.mem_of_getElem? (i := 11) (by decide +kernel)) (by decide +kernel)
theorem qs_X5_tieCamel : Cond.selects RX5 yX5_tieCamel yX5_tieCamel ∈ lw_all := lw_in (List.mem_of_getElem? (i := 12) (by decide +kernel)) (by decide +kernel)
theorem qs_X5_loosenCamel : Cond.selects RX5 yX5_loosenCamel yX5_loosenCamel ∈ lw_all := lw_in (List.mem_of_getElem? (i := 13) (by decide +kernel)) (by decide +kernel)
theorem qs_X5_waterCamel : Cond.selects RX5 yX5_waterCamel yX5_waterCamel ∈ lw_all := lw_in (List.mem_of_getElem? (i := 14) (by decide +kernel)) (by decide +kernel)
theorem qs_X5_bringWater : Cond.selects RX5 yX5_bringWater yX5_bringWater ∈ lw_all := lw_in (List.mem_of_getElem? (i := 15) (by decide +kernel)) (by decide +kernel)
theorem qs_X5_passHours : Cond.selects RX5 yX5_passHours yX5_passHours ∈ lw_all := lw_in (List.mem_of_getElem? (i := 16) (by decide +kernel)) (by decide +kernel)
theorem qs_X5_needCamel : Cond.selects RX5 yX5_needCamel yX5_needCamel ∈ lw_all := lw_in (List.mem_of_getElem? (i := 17) (by decide +kernel)) (by decide +kernel)
theorem qs_X5_needStake : Cond.selects RX5 yX5_needStake yX5_needStake ∈ lw_all := lw_in (List.mem_of_getElem? (i := 18) (by decide +kernel)) (by decide +kernel)
theorem qs_X5_needPost : Cond.selects RX5 yX5_needPost yX5_needPost ∈ lw_all := lw_in (List.mem_of_getElem? (i := 19) (by decide +kernel)) (by decide +kernel)
theorem qs_X4_signHere : Cond.selects RX4 yX4_signHere yX4_signHere ∈ lw_all := lw_in (List.mem_of_getElem? (i := 20) (by decide +kernel)) (by decide +kernel)
theorem qs_X4_readPart : Cond.selects RX4 yX4_readPart yX4_readPart ∈ lw_all := lw_in (List.mem_of_getElem? (i := 21) (by decide +kernel)) (by decide +kernel)
theorem qs_X4_readNumber : Cond.selects RX4 yX4_readNumber yX4_readNumber ∈ lw_all := lw_in (List.mem_of_getElem? (i := 22) (by decide +kernel)) (by decide +kernel)
theorem qs_X4_readDigit : Cond.selects RX4 yX4_readDigit yX4_readDigit ∈ lw_all := lw_in (List.mem_of_getElem? (i := 23) (by decide +kernel)) (by decide +kernel)
theorem qs_X5_carryOut : Cond.selects RX5 yX5_carryOut yX5_carryOut ∈ lw_all := lw_in (List.mem_of_getElem? (i := 24) (by decide +kernel)) (by decide +kernel)
theorem qs_X5_eraseDrawn : Cond.selects RX5 yX5_eraseDrawn yX5_eraseDrawn ∈ lw_all := lw_in (List.mem_of_getElem? (i := 25) (by decide +kernel)) (by decide +kernel)
theorem qs_X5_needSheet : Cond.selects RX5 yX5_needSheet yX5_needSheet ∈ lw_all := lw_in (List.mem_of_getElem? (i := 26) (by decide +kernel)) (by decide +kernel)
theorem qs_X2_put : Cond.selects RX2 yX2_put yX2_put ∈ lw_all := lw_in (List.mem_of_getElem? (i := 27) (by decide +kernel)) (by decide +kernel)
theorem qs_X2_putNumber : Cond.selects RX2 yX2_putNumber yX2_putNumber ∈ lw_all := lw_in (List.mem_of_getElem? (i := 28) (by decide +kernel)) (by decide +kernel)
theorem qn_L : Cond.initialized RL ∈ lw_all := lw_in (List.mem_of_getElem? (i := 29) (by decide +kernel)) (by decide +kernel)
theorem qn_X5 : Cond.initialized RX5 ∈ lw_all := lw_in (List.mem_of_getElem? (i := 30) (by decide +kernel)) (by decide +kernel)
theorem qn_X0 : Cond.initialized RX0 ∈ lw_all := lw_in (List.mem_of_getElem? (i := 31) (by decide +kernel)) (by decide +kernel)
theorem qn_X3 : Cond.initialized RX3 ∈ lw_all := lw_in (List.mem_of_getElem? (i := 32) (by decide +kernel)) (by decide +kernel)
theorem qn_X1 : Cond.initialized RX1 ∈ lw_all := lw_in (List.mem_of_getElem? (i := 33) (by decide +kernel)) (by decide +kernel)
theorem qn_X4 : Cond.initialized RX4 ∈ lw_all := lw_in (List.mem_of_getElem? (i := 34) (by decide +kernel)) (by decide +kernel)
theorem qn_X2 : Cond.initialized RX2 ∈ lw_all := lw_in (List.mem_of_getElem? (i := 35) (by decide +kernel)) (by decide +kernel)
theorem qn_Throwable : Cond.initialized "java/lang/Throwable" ∈ lw_all := lw_in (List.mem_of_getElem? (i := 36) (by decide +kernel)) (by decide +kernel)
theorem qn_Exception : Cond.initialized "java/lang/Exception" ∈ lw_all := lw_in (List.mem_of_getElem? (i := 37) (by decide +kernel)) (by decide +kernel)
theorem qn_RuntimeException : Cond.initialized "java/lang/RuntimeException" ∈ lw_all := lw_in (List.mem_of_getElem? (i := 38) (by decide +kernel)) (by decide +kernel)
theorem qn_IllegalStateException : Cond.initialized "java/lang/IllegalStateException" ∈ lw_all := lw_in (List.mem_of_getElem? (i := 39) (by decide +kernel)) (by decide +kernel)
theorem qn_Math : Cond.initialized "java/lang/Math" ∈ lw_all := lw_in (List.mem_of_getElem? (i := 40) (by decide +kernel)) (by decide +kernel)
theorem qn_System : Cond.initialized "java/lang/System" ∈ lw_all := lw_in (List.mem_of_getElem? (i := 41) (by decide +kernel)) (by decide +kernel)
theorem qn_UnsupportedOperationException : Cond.initialized "java/lang/UnsupportedOperationException" ∈ lw_all := lw_in (List.mem_of_getElem? (i := 42) (by decide +kernel)) (by decide +kernel)
theorem qn_IllegalArgumentException : Cond.initialized "java/lang/IllegalArgumentException" ∈ lw_all := lw_in (List.mem_of_getElem? (i := 43) (by decide +kernel)) (by decide +kernel)
theorem qn_String : Cond.initialized "java/lang/String" ∈ lw_all := lw_in (List.mem_of_getElem? (i := 44) (by decide +kernel)) (by decide +kernel)
theorem qn_StringLatin1 : Cond.initialized "java/lang/StringLatin1" ∈ lw_all := lw_in (List.mem_of_getElem? (i := 45) (by decide +kernel)) (by decide +kernel)
theorem qn_Preconditions : Cond.initialized "jdk/internal/util/Preconditions" ∈ lw_all := lw_in (List.mem_of_getElem? (i := 46) (by decide +kernel)) (by decide +kernel)
theorem qn_StringUTF16 : Cond.initialized "java/lang/StringUTF16" ∈ lw_all := lw_in (List.mem_of_getElem? (i := 47) (by decide +kernel)) (by decide +kernel)
theorem qn_NoSuchElementException : Cond.initialized "java/util/NoSuchElementException" ∈ lw_all := lw_in (List.mem_of_getElem? (i := 48) (by decide +kernel)) (by decide +kernel)
theorem qn_IndexOutOfBoundsException : Cond.initialized "java/lang/IndexOutOfBoundsException" ∈ lw_all := lw_in (List.mem_of_getElem? (i := 49) (by decide +kernel)) (by decide +kernel)
theorem qn_ArrayIndexOutOfBoundsException : Cond.initialized "java/lang/ArrayIndexOutOfBoundsException" ∈ lw_all := lw_in (List.mem_of_getElem? (i := 50) (by decide +kernel)) (by decide +kernel)
theorem qn_ArithmeticException : Cond.initialized "java/lang/ArithmeticException" ∈ lw_all := lw_in (List.mem_of_getElem? (i := 51) (by decide +kernel)) (by decide +kernel)
theorem qn_Number : Cond.initialized "java/lang/Number" ∈ lw_all := lw_in (List.mem_of_getElem? (i := 52) (by decide +kernel)) (by decide +kernel)
theorem qn_Double : Cond.initialized "java/lang/Double" ∈ lw_all := lw_in (List.mem_of_getElem? (i := 53) (by decide +kernel)) (by decide +kernel)
theorem qn_Float : Cond.initialized "java/lang/Float" ∈ lw_all := lw_in (List.mem_of_getElem? (i := 54) (by decide +kernel)) (by decide +kernel)
theorem qn_AbstractStringBuilder : Cond.initialized "java/lang/AbstractStringBuilder" ∈ lw_all := lw_in (List.mem_of_getElem? (i := 55) (by decide +kernel)) (by decide +kernel)
theorem qn_StringBuilder : Cond.initialized "java/lang/StringBuilder" ∈ lw_all := lw_in (List.mem_of_getElem? (i := 56) (by decide +kernel)) (by decide +kernel)
theorem qn_ArraysSupport : Cond.initialized "jdk/internal/util/ArraysSupport" ∈ lw_all := lw_in (List.mem_of_getElem? (i := 57) (by decide +kernel)) (by decide +kernel)
theorem qn_Arrays : Cond.initialized "java/util/Arrays" ∈ lw_all := lw_in (List.mem_of_getElem? (i := 58) (by decide +kernel)) (by decide +kernel)
theorem qn_Integer : Cond.initialized "java/lang/Integer" ∈ lw_all := lw_in (List.mem_of_getElem? (i := 59) (by decide +kernel)) (by decide +kernel)
theorem ql_L_8 : Cond.classLink RL 8 RX5 ∈ lw_all := lw_in (List.mem_of_getElem? (i := 60) (by decide +kernel)) (by decide +kernel)
theorem qm_X5 : Cond.instantiable RX5 12 ∈ lw_all := lw_in (List.mem_of_getElem? (i := 61) (by decide +kernel)) (by decide +kernel)
theorem q_L_293 : Cond.methodLink RL 293 yX5_init ∈ lw_all := lw_in (List.mem_of_getElem? (i := 62) (by decide +kernel)) (by decide +kernel)
theorem qi_X5_init : Cond.instanceMethod yX5_init ∈ lw_all := lw_in (List.mem_of_getElem? (i := 63) (by decide +kernel)) (by decide +kernel)
theorem qc_X5_init : Cond.code yX5_init cX5_init 1 none ∈ lw_all := lw_in (List.mem_of_getElem? (i := 64) (by decide +kernel)) (by decide +kernel)
theorem q_X5_1 : Cond.methodLink RX5 1 objectInit ∈ lw_all := lw_in (List.mem_of_getElem? (i := 65) (by decide +kernel)) (by decide +kernel)
theorem qi_objInit : Cond.instanceMethod objectInit ∈ lw_all := lw_in (List.mem_of_getElem? (i := 66) (by decide +kernel)) (by decide +kernel)
theorem qc_objInit : Cond.code objectInit ⟨#[0xb1]⟩ 1 none ∈ lw_all := lw_in (List.mem_of_getElem? (i := 67) (by decide +kernel)) (by decide +kernel)
theorem ql_X5_7 : Cond.classLink RX5 7 RX0 ∈ lw_all := lw_in (List.mem_of_getElem? (i := 68) (by decide +kernel)) (by decide +kernel)
theorem qm_X0 : Cond.instantiable RX0 13 ∈ lw_all := lw_in (List.mem_of_getElem? (i := 69) (by decide +kernel)) (by decide +kernel)
theorem q_X5_9 : Cond.methodLink RX5 9 yX0_init ∈ lw_all := lw_in (List.mem_of_getElem? (i := 70) (by decide +kernel)) (by decide +kernel)
theorem qi_X0_init : Cond.instanceMethod yX0_init ∈ lw_all := lw_in (List.mem_of_getElem? (i := 71) (by decide +kernel)) (by decide +kernel)
theorem qc_X0_init : Cond.code yX0_init cX0_init 2 none ∈ lw_all := lw_in (List.mem_of_getElem? (i := 72) (by decide +kernel)) (by decide +kernel)
theorem q_X0_3 : Cond.methodLink RX0 3 objectInit ∈ lw_all := lw_in (List.mem_of_getElem? (i := 73) (by decide +kernel)) (by decide +kernel)
theorem ql_X0_9 : Cond.classLink RX0 9 RX3 ∈ lw_all := lw_in (List.mem_of_getElem? (i := 74) (by decide +kernel)) (by decide +kernel)
theorem qm_X3 : Cond.instantiable RX3 2 ∈ lw_all := lw_in (List.mem_of_getElem? (i := 75) (by decide +kernel)) (by decide +kernel)
theorem q_X0_11 : Cond.methodLink RX0 11 yX3_init ∈ lw_all := lw_in (List.mem_of_getElem? (i := 76) (by decide +kernel)) (by decide +kernel)
theorem qi_X3_init : Cond.instanceMethod yX3_init ∈ lw_all := lw_in (List.mem_of_getElem? (i := 77) (by decide +kernel)) (by decide +kernel)
theorem qc_X3_init : Cond.code yX3_init cX3_init 2 none ∈ lw_all := lw_in (List.mem_of_getElem? (i := 78) (by decide +kernel)) (by decide +kernel)
theorem q_X3_3 : Cond.methodLink RX3 3 objectInit ∈ lw_all := lw_in (List.mem_of_getElem? (i := 79) (by decide +kernel)) (by decide +kernel)
theorem qf_X3_15 : Cond.fieldLink RX3 15 "MirageSurvey$Row" "items" "[I" ∈ lw_all := lw_in (List.mem_of_getElem? (i := 80) (by decide +kernel)) (by decide +kernel)
theorem qf_X3_9 : Cond.fieldLink RX3 9 "MirageSurvey$Row" "size" "I" ∈ lw_all := lw_in (List.mem_of_getElem? (i := 81) (by decide +kernel)) (by decide +kernel)
theorem qa_int : Cond.arrayClass .int ∈ lw_all := lw_in (List.mem_of_getElem? (i := 87) (by decide +kernel)) (by decide +kernel)
theorem q_X0_57 : Cond.methodLink RX0 57 yX3_add ∈ lw_all := lw_in (List.mem_of_getElem? (i := 88) (by decide +kernel)) (by decide +kernel)
theorem qi_X3_add : Cond.instanceMethod yX3_add ∈ lw_all := lw_in (List.mem_of_getElem? (i := 89) (by decide +kernel)) (by decide +kernel)
theorem qs_X3_add : Cond.selects RX3 yX3_add yX3_add ∈ lw_all := lw_in (List.mem_of_getElem? (i := 90) (by decide +kernel)) (by decide +kernel)
theorem qc_X3_add : Cond.code yX3_add cX3_add 2 (some .int) ∈ lw_all := lw_in (List.mem_of_getElem? (i := 91) (by decide +kernel)) (by decide +kernel)
theorem qf_X0_14 : Cond.fieldLink RX0 14 "MirageSurvey$Flat" "stakes" "LMirageSurvey$Row;" ∈ lw_all := lw_in (List.mem_of_getElem? (i := 92) (by decide +kernel)) (by decide +kernel)
theorem qf_X5_116 : Cond.fieldLink RX5 116 "MirageSurvey$Flat" "stakes" "LMirageSurvey$Row;" ∈ lw_all := lw_in (List.mem_of_getElem? (i := 93) (by decide +kernel)) (by decide +kernel)
theorem qf_X0_20 : Cond.fieldLink RX0 20 "MirageSurvey$Flat" "posts" "LMirageSurvey$Row;" ∈ lw_all := lw_in (List.mem_of_getElem? (i := 94) (by decide +kernel)) (by decide +kernel)
theorem qf_X5_131 : Cond.fieldLink RX5 131 "MirageSurvey$Flat" "posts" "LMirageSurvey$Row;" ∈ lw_all := lw_in (List.mem_of_getElem? (i := 95) (by decide +kernel)) (by decide +kernel)
theorem qf_X0_23 : Cond.fieldLink RX0 23 "MirageSurvey$Flat" "heights" "LMirageSurvey$Row;" ∈ lw_all := lw_in (List.mem_of_getElem? (i := 96) (by decide +kernel)) (by decide +kernel)
theorem qf_X5_128 : Cond.fieldLink RX5 128 "MirageSurvey$Flat" "heights" "LMirageSurvey$Row;" ∈ lw_all := lw_in (List.mem_of_getElem? (i := 97) (by decide +kernel)) (by decide +kernel)
theorem qf_X0_26 : Cond.fieldLink RX0 26 "MirageSurvey$Flat" "drawn" "LMirageSurvey$Row;" ∈ lw_all := lw_in (List.mem_of_getElem? (i := 98) (by decide +kernel)) (by decide +kernel)
theorem qf_X0_29 : Cond.fieldLink RX0 29 "MirageSurvey$Flat" "camels" "LMirageSurvey$Row;" ∈ lw_all := lw_in (List.mem_of_getElem? (i := 99) (by decide +kernel)) (by decide +kernel)
theorem qf_X5_137 : Cond.fieldLink RX5 137 "MirageSurvey$Flat" "camels" "LMirageSurvey$Row;" ∈ lw_all := lw_in (List.mem_of_getElem? (i := 100) (by decide +kernel)) (by decide +kernel)
theorem qf_X0_32 : Cond.fieldLink RX0 32 "MirageSurvey$Flat" "thirsts" "LMirageSurvey$Row;" ∈ lw_all := lw_in (List.mem_of_getElem? (i := 101) (by decide +kernel)) (by decide +kernel)
theorem qf_X5_140 : Cond.fieldLink RX5 140 "MirageSurvey$Flat" "thirsts" "LMirageSurvey$Row;" ∈ lw_all := lw_in (List.mem_of_getElem? (i := 102) (by decide +kernel)) (by decide +kernel)
theorem qf_X0_35 : Cond.fieldLink RX0 35 "MirageSurvey$Flat" "ties" "LMirageSurvey$Row;" ∈ lw_all := lw_in (List.mem_of_getElem? (i := 103) (by decide +kernel)) (by decide +kernel)
theorem qf_X5_143 : Cond.fieldLink RX5 143 "MirageSurvey$Flat" "ties" "LMirageSurvey$Row;" ∈ lw_all := lw_in (List.mem_of_getElem? (i := 104) (by decide +kernel)) (by decide +kernel)
theorem qf_X0_38 : Cond.fieldLink RX0 38 "MirageSurvey$Flat" "drunk" "LMirageSurvey$Row;" ∈ lw_all := lw_in (List.mem_of_getElem? (i := 105) (by decide +kernel)) (by decide +kernel)
theorem qf_X5_150 : Cond.fieldLink RX5 150 "MirageSurvey$Flat" "drunk" "LMirageSurvey$Row;" ∈ lw_all := lw_in (List.mem_of_getElem? (i := 106) (by decide +kernel)) (by decide +kernel)
theorem qf_X0_41 : Cond.fieldLink RX0 41 "MirageSurvey$Flat" "sheets" "I" ∈ lw_all := lw_in (List.mem_of_getElem? (i := 107) (by decide +kernel)) (by decide +kernel)
theorem qf_X5_315 : Cond.fieldLink RX5 315 "MirageSurvey$Flat" "sheets" "I" ∈ lw_all := lw_in (List.mem_of_getElem? (i := 108) (by decide +kernel)) (by decide +kernel)
theorem qf_X0_45 : Cond.fieldLink RX0 45 "MirageSurvey$Flat" "hour" "I" ∈ lw_all := lw_in (List.mem_of_getElem? (i := 109) (by decide +kernel)) (by decide +kernel)
theorem qf_X5_204 : Cond.fieldLink RX5 204 "MirageSurvey$Flat" "hour" "I" ∈ lw_all := lw_in (List.mem_of_getElem? (i := 110) (by decide +kernel)) (by decide +kernel)
theorem qf_X0_48 : Cond.fieldLink RX0 48 "MirageSurvey$Flat" "dayHeat" "I" ∈ lw_all := lw_in (List.mem_of_getElem? (i := 111) (by decide +kernel)) (by decide +kernel)
theorem qf_X5_312 : Cond.fieldLink RX5 312 "MirageSurvey$Flat" "dayHeat" "I" ∈ lw_all := lw_in (List.mem_of_getElem? (i := 112) (by decide +kernel)) (by decide +kernel)
theorem qf_X0_51 : Cond.fieldLink RX0 51 "MirageSurvey$Flat" "cups" "I" ∈ lw_all := lw_in (List.mem_of_getElem? (i := 113) (by decide +kernel)) (by decide +kernel)
theorem qf_X5_321 : Cond.fieldLink RX5 321 "MirageSurvey$Flat" "cups" "I" ∈ lw_all := lw_in (List.mem_of_getElem? (i := 114) (by decide +kernel)) (by decide +kernel)
theorem qf_X0_54 : Cond.fieldLink RX0 54 "MirageSurvey$Flat" "sightings" "I" ∈ lw_all := lw_in (List.mem_of_getElem? (i := 115) (by decide +kernel)) (by decide +kernel)
theorem qf_X5_327 : Cond.fieldLink RX5 327 "MirageSurvey$Flat" "sightings" "I" ∈ lw_all := lw_in (List.mem_of_getElem? (i := 116) (by decide +kernel)) (by decide +kernel)
theorem ql_X5_22 : Cond.classLink RX5 22 RX1 ∈ lw_all := lw_in (List.mem_of_getElem? (i := 144) (by decide +kernel)) (by decide +kernel)
theorem qm_X1 : Cond.instantiable RX1 3 ∈ lw_all := lw_in (List.mem_of_getElem? (i := 145) (by decide +kernel)) (by decide +kernel)
theorem q_X5_24 : Cond.methodLink RX5 24 yX1_init ∈ lw_all := lw_in (List.mem_of_getElem? (i := 146) (by decide +kernel)) (by decide +kernel)
theorem qi_X1_init : Cond.instanceMethod yX1_init ∈ lw_all := lw_in (List.mem_of_getElem? (i := 147) (by decide +kernel)) (by decide +kernel)
theorem qc_X1_init : Cond.code yX1_init cX1_init 2 none ∈ lw_all := lw_in (List.mem_of_getElem? (i := 148) (by decide +kernel)) (by decide +kernel)
theorem q_X1_3 : Cond.methodLink RX1 3 objectInit ∈ lw_all := lw_in (List.mem_of_getElem? (i := 149) (by decide +kernel)) (by decide +kernel)
theorem ql_X1_9 : Cond.classLink RX1 9 RX0 ∈ lw_all := lw_in (List.mem_of_getElem? (i := 150) (by decide +kernel)) (by decide +kernel)
theorem q_X1_24 : Cond.methodLink RX1 24 yX0_init ∈ lw_all := lw_in (List.mem_of_getElem? (i := 152) (by decide +kernel)) (by decide +kernel)
theorem qf_X1_11 : Cond.fieldLink RX1 11 "MirageSurvey$History" "kept" "[LMirageSurvey$Flat;" ∈ lw_all := lw_in (List.mem_of_getElem? (i := 153) (by decide +kernel)) (by decide +kernel)
theorem qf_X1_17 : Cond.fieldLink RX1 17 "MirageSurvey$History" "size" "I" ∈ lw_all := lw_in (List.mem_of_getElem? (i := 154) (by decide +kernel)) (by decide +kernel)
theorem qf_X1_21 : Cond.fieldLink RX1 21 "MirageSurvey$History" "next" "I" ∈ lw_all := lw_in (List.mem_of_getElem? (i := 155) (by decide +kernel)) (by decide +kernel)
theorem ql_X5_29 : Cond.classLink RX5 29 RX4 ∈ lw_all := lw_in (List.mem_of_getElem? (i := 163) (by decide +kernel)) (by decide +kernel)
theorem qm_X4 : Cond.instantiable RX4 5 ∈ lw_all := lw_in (List.mem_of_getElem? (i := 164) (by decide +kernel)) (by decide +kernel)
theorem qi_X4_init : Cond.instanceMethod yX4_init ∈ lw_all := lw_in (List.mem_of_getElem? (i := 166) (by decide +kernel)) (by decide +kernel)
theorem qc_X4_init : Cond.code yX4_init cX4_init 1 none ∈ lw_all := lw_in (List.mem_of_getElem? (i := 167) (by decide +kernel)) (by decide +kernel)
theorem q_X4_3 : Cond.methodLink RX4 3 objectInit ∈ lw_all := lw_in (List.mem_of_getElem? (i := 168) (by decide +kernel)) (by decide +kernel)
theorem ql_X4_9 : Cond.classLink RX4 9 RX3 ∈ lw_all := lw_in (List.mem_of_getElem? (i := 169) (by decide +kernel)) (by decide +kernel)
theorem q_X4_11 : Cond.methodLink RX4 11 yX3_init ∈ lw_all := lw_in (List.mem_of_getElem? (i := 170) (by decide +kernel)) (by decide +kernel)
theorem qf_X4_14 : Cond.fieldLink RX4 14 "MirageSurvey$Text" "numbers" "LMirageSurvey$Row;" ∈ lw_all := lw_in (List.mem_of_getElem? (i := 171) (by decide +kernel)) (by decide +kernel)
theorem qf_X5_259 : Cond.fieldLink RX5 259 "MirageSurvey$Text" "numbers" "LMirageSurvey$Row;" ∈ lw_all := lw_in (List.mem_of_getElem? (i := 172) (by decide +kernel)) (by decide +kernel)
theorem qf_X4_20 : Cond.fieldLink RX4 20 "MirageSurvey$Text" "signs" "[C" ∈ lw_all := lw_in (List.mem_of_getElem? (i := 173) (by decide +kernel)) (by decide +kernel)
theorem qf_X4_24 : Cond.fieldLink RX4 24 "MirageSurvey$Text" "length" "I" ∈ lw_all := lw_in (List.mem_of_getElem? (i := 174) (by decide +kernel)) (by decide +kernel)
theorem qf_X4_28 : Cond.fieldLink RX4 28 "MirageSurvey$Text" "position" "I" ∈ lw_all := lw_in (List.mem_of_getElem? (i := 175) (by decide +kernel)) (by decide +kernel)
theorem qf_X4_31 : Cond.fieldLink RX4 31 "MirageSurvey$Text" "kind" "C" ∈ lw_all := lw_in (List.mem_of_getElem? (i := 176) (by decide +kernel)) (by decide +kernel)
theorem qa_char : Cond.arrayClass .char ∈ lw_all := lw_in (List.mem_of_getElem? (i := 188) (by decide +kernel)) (by decide +kernel)
theorem ql_X5_36 : Cond.classLink RX5 36 RX2 ∈ lw_all := lw_in (List.mem_of_getElem? (i := 189) (by decide +kernel)) (by decide +kernel)
theorem qm_X2 : Cond.instantiable RX2 2 ∈ lw_all := lw_in (List.mem_of_getElem? (i := 190) (by decide +kernel)) (by decide +kernel)
theorem qi_X2_init : Cond.instanceMethod yX2_init ∈ lw_all := lw_in (List.mem_of_getElem? (i := 192) (by decide +kernel)) (by decide +kernel)
theorem qc_X2_init : Cond.code yX2_init cX2_init 1 none ∈ lw_all := lw_in (List.mem_of_getElem? (i := 193) (by decide +kernel)) (by decide +kernel)
theorem q_X2_3 : Cond.methodLink RX2 3 objectInit ∈ lw_all := lw_in (List.mem_of_getElem? (i := 194) (by decide +kernel)) (by decide +kernel)
theorem qf_X2_9 : Cond.fieldLink RX2 9 "MirageSurvey$Line" "signs" "[C" ∈ lw_all := lw_in (List.mem_of_getElem? (i := 195) (by decide +kernel)) (by decide +kernel)
theorem qf_X2_15 : Cond.fieldLink RX2 15 "MirageSurvey$Line" "length" "I" ∈ lw_all := lw_in (List.mem_of_getElem? (i := 196) (by decide +kernel)) (by decide +kernel)
theorem qf_X5_10 : Cond.fieldLink RX5 10 "MirageSurvey" "flat" "LMirageSurvey$Flat;" ∈ lw_all := lw_in (List.mem_of_getElem? (i := 202) (by decide +kernel)) (by decide +kernel)
theorem qf_X5_16 : Cond.fieldLink RX5 16 "MirageSurvey" "before" "LMirageSurvey$Flat;" ∈ lw_all := lw_in (List.mem_of_getElem? (i := 203) (by decide +kernel)) (by decide +kernel)
theorem qf_X5_19 : Cond.fieldLink RX5 19 "MirageSurvey" "saved" "LMirageSurvey$Flat;" ∈ lw_all := lw_in (List.mem_of_getElem? (i := 204) (by decide +kernel)) (by decide +kernel)
theorem qf_X5_25 : Cond.fieldLink RX5 25 "MirageSurvey" "history" "LMirageSurvey$History;" ∈ lw_all := lw_in (List.mem_of_getElem? (i := 205) (by decide +kernel)) (by decide +kernel)
theorem qf_X5_32 : Cond.fieldLink RX5 32 "MirageSurvey" "text" "LMirageSurvey$Text;" ∈ lw_all := lw_in (List.mem_of_getElem? (i := 206) (by decide +kernel)) (by decide +kernel)
theorem qf_X5_39 : Cond.fieldLink RX5 39 "MirageSurvey" "written" "LMirageSurvey$Line;" ∈ lw_all := lw_in (List.mem_of_getElem? (i := 207) (by decide +kernel)) (by decide +kernel)
theorem qf_X5_43 : Cond.fieldLink RX5 43 "MirageSurvey" "isSaved" "Z" ∈ lw_all := lw_in (List.mem_of_getElem? (i := 208) (by decide +kernel)) (by decide +kernel)
theorem qf_X5_47 : Cond.fieldLink RX5 47 "MirageSurvey" "faultAt" "I" ∈ lw_all := lw_in (List.mem_of_getElem? (i := 209) (by decide +kernel)) (by decide +kernel)
theorem qf_X5_51 : Cond.fieldLink RX5 51 "MirageSurvey" "commandIndex" "I" ∈ lw_all := lw_in (List.mem_of_getElem? (i := 210) (by decide +kernel)) (by decide +kernel)
theorem qf_X5_54 : Cond.fieldLink RX5 54 "MirageSurvey" "reasonKind" "I" ∈ lw_all := lw_in (List.mem_of_getElem? (i := 211) (by decide +kernel)) (by decide +kernel)
theorem qf_X5_57 : Cond.fieldLink RX5 57 "MirageSurvey" "reasonDetail" "I" ∈ lw_all := lw_in (List.mem_of_getElem? (i := 212) (by decide +kernel)) (by decide +kernel)
theorem qf_X5_60 : Cond.fieldLink RX5 60 "MirageSurvey" "reasonCommand" "I" ∈ lw_all := lw_in (List.mem_of_getElem? (i := 213) (by decide +kernel)) (by decide +kernel)
theorem q_L_288 : Cond.methodLink RL 288 yX5_faultPosition ∈ lw_all := lw_in (List.mem_of_getElem? (i := 239) (by decide +kernel)) (by decide +kernel)
theorem qi_X5_faultPosition : Cond.instanceMethod yX5_faultPosition ∈ lw_all := lw_in (List.mem_of_getElem? (i := 240) (by decide +kernel)) (by decide +kernel)
theorem qs_X5_faultPosition : Cond.selects RX5 yX5_faultPosition yX5_faultPosition ∈ lw_all := lw_in (List.mem_of_getElem? (i := 241) (by decide +kernel)) (by decide +kernel)
theorem qc_X5_faultPosition : Cond.code yX5_faultPosition cX5_faultPosition 1 (some .int) ∈ lw_all := lw_in (List.mem_of_getElem? (i := 242) (by decide +kernel)) (by decide +kernel)
theorem q_L_298 : Cond.methodLink RL 298 yX5_save ∈ lw_all := lw_in (List.mem_of_getElem? (i := 243) (by decide +kernel)) (by decide +kernel)
theorem qi_X5_save : Cond.instanceMethod yX5_save ∈ lw_all := lw_in (List.mem_of_getElem? (i := 244) (by decide +kernel)) (by decide +kernel)
theorem qs_X5_save : Cond.selects RX5 yX5_save yX5_save ∈ lw_all := lw_in (List.mem_of_getElem? (i := 245) (by decide +kernel)) (by decide +kernel)
theorem qc_X5_save : Cond.code yX5_save cX5_save 1 (some .int) ∈ lw_all := lw_in (List.mem_of_getElem? (i := 246) (by decide +kernel)) (by decide +kernel)
theorem q_X5_270 : Cond.methodLink RX5 270 yX0_copyFrom ∈ lw_all := lw_in (List.mem_of_getElem? (i := 247) (by decide +kernel)) (by decide +kernel)
theorem qi_X0_copyFrom : Cond.instanceMethod yX0_copyFrom ∈ lw_all := lw_in (List.mem_of_getElem? (i := 248) (by decide +kernel)) (by decide +kernel)
theorem qs_X0_copyFrom : Cond.selects RX0 yX0_copyFrom yX0_copyFrom ∈ lw_all := lw_in (List.mem_of_getElem? (i := 249) (by decide +kernel)) (by decide +kernel)
theorem qc_X0_copyFrom : Cond.code yX0_copyFrom cX0_copyFrom 2 none ∈ lw_all := lw_in (List.mem_of_getElem? (i := 250) (by decide +kernel)) (by decide +kernel)
theorem q_X0_61 : Cond.methodLink RX0 61 yX3_copyFrom ∈ lw_all := lw_in (List.mem_of_getElem? (i := 251) (by decide +kernel)) (by decide +kernel)
theorem qi_X3_copyFrom : Cond.instanceMethod yX3_copyFrom ∈ lw_all := lw_in (List.mem_of_getElem? (i := 252) (by decide +kernel)) (by decide +kernel)
theorem qs_X3_copyFrom : Cond.selects RX3 yX3_copyFrom yX3_copyFrom ∈ lw_all := lw_in (List.mem_of_getElem? (i := 253) (by decide +kernel)) (by decide +kernel)
theorem qc_X3_copyFrom : Cond.code yX3_copyFrom cX3_copyFrom 2 none ∈ lw_all := lw_in (List.mem_of_getElem? (i := 254) (by decide +kernel)) (by decide +kernel)
theorem q_X3_23 : Cond.methodLink RX3 23 Lib.Math.min.name ∈ lw_all := lw_in (List.mem_of_getElem? (i := 255) (by decide +kernel)) (by decide +kernel)
theorem qt_min : Cond.static Lib.Math.min.name ∈ lw_all := lw_in (List.mem_of_getElem? (i := 256) (by decide +kernel)) (by decide +kernel)
theorem qc_min : Cond.code Lib.Math.min.name Lib.Math.min.code 2 (some .int) ∈ lw_all := lw_in (List.mem_of_getElem? (i := 257) (by decide +kernel)) (by decide +kernel)
theorem q_X3_29 : Cond.methodLink RX3 29 arraycopyName ∈ lw_all := lw_in (List.mem_of_getElem? (i := 258) (by decide +kernel)) (by decide +kernel)
theorem qt_acopy : Cond.static arraycopyName ∈ lw_all := lw_in (List.mem_of_getElem? (i := 259) (by decide +kernel)) (by decide +kernel)
theorem qv_acopy : Cond.native arraycopyName ∈ lw_all := lw_in (List.mem_of_getElem? (i := 260) (by decide +kernel)) (by decide +kernel)
theorem q_L_165 : Cond.methodLink RL 165 yL_at ∈ lw_all := lw_in (List.mem_of_getElem? (i := 261) (by decide +kernel)) (by decide +kernel)
theorem qt_L_at : Cond.static yL_at ∈ lw_all := lw_in (List.mem_of_getElem? (i := 262) (by decide +kernel)) (by decide +kernel)
theorem qc_L_at : Cond.code yL_at cL_at 2 (some .int) ∈ lw_all := lw_in (List.mem_of_getElem? (i := 263) (by decide +kernel)) (by decide +kernel)
theorem q_L_169 : Cond.methodLink RL 169 yL_some ∈ lw_all := lw_in (List.mem_of_getElem? (i := 264) (by decide +kernel)) (by decide +kernel)
theorem qt_L_some : Cond.static yL_some ∈ lw_all := lw_in (List.mem_of_getElem? (i := 265) (by decide +kernel)) (by decide +kernel)
theorem qc_L_some : Cond.code yL_some cL_some 3 (some .int) ∈ lw_all := lw_in (List.mem_of_getElem? (i := 266) (by decide +kernel)) (by decide +kernel)
theorem q_L_172 : Cond.methodLink RL 172 yL_stake ∈ lw_all := lw_in (List.mem_of_getElem? (i := 267) (by decide +kernel)) (by decide +kernel)
theorem qt_L_stake : Cond.static yL_stake ∈ lw_all := lw_in (List.mem_of_getElem? (i := 268) (by decide +kernel)) (by decide +kernel)
theorem qw_L_stake : Cond.codeWith yL_stake cL_stake 3 (some .int) [(0, 5, 6, 13)] ∈ lw_all := lw_in (List.mem_of_getElem? (i := 269) (by decide +kernel)) (by decide +kernel)
theorem ql_L_13 : Cond.classLink RL 13 "java/lang/UnsupportedOperationException" ∈ lw_all := lw_in (List.mem_of_getElem? (i := 270) (by decide +kernel)) (by decide +kernel)
theorem q_L_7 : Cond.methodLink RL 7 yX5_stake ∈ lw_all := lw_in (List.mem_of_getElem? (i := 271) (by decide +kernel)) (by decide +kernel)
theorem qi_X5_stake : Cond.instanceMethod yX5_stake ∈ lw_all := lw_in (List.mem_of_getElem? (i := 272) (by decide +kernel)) (by decide +kernel)
theorem qs_X5_stake : Cond.selects RX5 yX5_stake yX5_stake ∈ lw_all := lw_in (List.mem_of_getElem? (i := 273) (by decide +kernel)) (by decide +kernel)
theorem qc_X5_stake : Cond.code yX5_stake cX5_stake 2 (some .int) ∈ lw_all := lw_in (List.mem_of_getElem? (i := 274) (by decide +kernel)) (by decide +kernel)
theorem q_X5_63 : Cond.methodLink RX5 63 yX5_begin ∈ lw_all := lw_in (List.mem_of_getElem? (i := 275) (by decide +kernel)) (by decide +kernel)
theorem qi_X5_begin : Cond.instanceMethod yX5_begin ∈ lw_all := lw_in (List.mem_of_getElem? (i := 277) (by decide +kernel)) (by decide +kernel)
theorem qc_X5_begin : Cond.code yX5_begin cX5_begin 1 none ∈ lw_all := lw_in (List.mem_of_getElem? (i := 278) (by decide +kernel)) (by decide +kernel)
theorem q_X5_66 : Cond.methodLink RX5 66 yX5_driveStake ∈ lw_all := lw_in (List.mem_of_getElem? (i := 279) (by decide +kernel)) (by decide +kernel)
theorem qi_X5_driveStake : Cond.instanceMethod yX5_driveStake ∈ lw_all := lw_in (List.mem_of_getElem? (i := 281) (by decide +kernel)) (by decide +kernel)
theorem qc_X5_driveStake : Cond.code yX5_driveStake cX5_driveStake 3 (some .int) ∈ lw_all := lw_in (List.mem_of_getElem? (i := 282) (by decide +kernel)) (by decide +kernel)
theorem q_X5_215 : Cond.methodLink RX5 215 yX5_isPlace ∈ lw_all := lw_in (List.mem_of_getElem? (i := 283) (by decide +kernel)) (by decide +kernel)
theorem qt_X5_isPlace : Cond.static yX5_isPlace ∈ lw_all := lw_in (List.mem_of_getElem? (i := 284) (by decide +kernel)) (by decide +kernel)
theorem qc_X5_isPlace : Cond.code yX5_isPlace cX5_isPlace 1 (some .boolean) ∈ lw_all := lw_in (List.mem_of_getElem? (i := 285) (by decide +kernel)) (by decide +kernel)
theorem q_X5_352 : Cond.methodLink RX5 352 yX5_refuse ∈ lw_all := lw_in (List.mem_of_getElem? (i := 286) (by decide +kernel)) (by decide +kernel)
theorem qi_X5_refuse : Cond.instanceMethod yX5_refuse ∈ lw_all := lw_in (List.mem_of_getElem? (i := 288) (by decide +kernel)) (by decide +kernel)
theorem qc_X5_refuse : Cond.code yX5_refuse cX5_refuse 3 (some .int) ∈ lw_all := lw_in (List.mem_of_getElem? (i := 289) (by decide +kernel)) (by decide +kernel)
theorem q_X5_355 : Cond.methodLink RX5 355 yX3_isFull ∈ lw_all := lw_in (List.mem_of_getElem? (i := 290) (by decide +kernel)) (by decide +kernel)
theorem qi_X3_isFull : Cond.instanceMethod yX3_isFull ∈ lw_all := lw_in (List.mem_of_getElem? (i := 291) (by decide +kernel)) (by decide +kernel)
theorem qs_X3_isFull : Cond.selects RX3 yX3_isFull yX3_isFull ∈ lw_all := lw_in (List.mem_of_getElem? (i := 292) (by decide +kernel)) (by decide +kernel)
theorem qc_X3_isFull : Cond.code yX3_isFull cX3_isFull 1 (some .boolean) ∈ lw_all := lw_in (List.mem_of_getElem? (i := 293) (by decide +kernel)) (by decide +kernel)
theorem q_X5_356 : Cond.methodLink RX5 356 yX3_find ∈ lw_all := lw_in (List.mem_of_getElem? (i := 294) (by decide +kernel)) (by decide +kernel)
theorem qi_X3_find : Cond.instanceMethod yX3_find ∈ lw_all := lw_in (List.mem_of_getElem? (i := 295) (by decide +kernel)) (by decide +kernel)
theorem qs_X3_find : Cond.selects RX3 yX3_find yX3_find ∈ lw_all := lw_in (List.mem_of_getElem? (i := 296) (by decide +kernel)) (by decide +kernel)
theorem qc_X3_find : Cond.code yX3_find cX3_find 3 (some .int) ∈ lw_all := lw_in (List.mem_of_getElem? (i := 297) (by decide +kernel)) (by decide +kernel)
theorem q_X3_19 : Cond.methodLink RX3 19 yX3_get ∈ lw_all := lw_in (List.mem_of_getElem? (i := 298) (by decide +kernel)) (by decide +kernel)
theorem qi_X3_get : Cond.instanceMethod yX3_get ∈ lw_all := lw_in (List.mem_of_getElem? (i := 299) (by decide +kernel)) (by decide +kernel)
theorem qs_X3_get : Cond.selects RX3 yX3_get yX3_get ∈ lw_all := lw_in (List.mem_of_getElem? (i := 300) (by decide +kernel)) (by decide +kernel)
theorem qc_X3_get : Cond.code yX3_get cX3_get 2 (some .int) ∈ lw_all := lw_in (List.mem_of_getElem? (i := 301) (by decide +kernel)) (by decide +kernel)
theorem q_X5_359 : Cond.methodLink RX5 359 yX3_add ∈ lw_all := lw_in (List.mem_of_getElem? (i := 302) (by decide +kernel)) (by decide +kernel)
theorem q_X5_70 : Cond.methodLink RX5 70 yX5_settle ∈ lw_all := lw_in (List.mem_of_getElem? (i := 303) (by decide +kernel)) (by decide +kernel)
theorem qi_X5_settle : Cond.instanceMethod yX5_settle ∈ lw_all := lw_in (List.mem_of_getElem? (i := 305) (by decide +kernel)) (by decide +kernel)
theorem qc_X5_settle : Cond.code yX5_settle cX5_settle 2 (some .int) ∈ lw_all := lw_in (List.mem_of_getElem? (i := 306) (by decide +kernel)) (by decide +kernel)
theorem ql_X5_344 : Cond.classLink RX5 344 "java/lang/UnsupportedOperationException" ∈ lw_all := lw_in (List.mem_of_getElem? (i := 307) (by decide +kernel)) (by decide +kernel)
theorem qm_UnsupportedOperationException : Cond.instantiable "java/lang/UnsupportedOperationException" 6 ∈ lw_all := lw_in (List.mem_of_getElem? (i := 308) (by decide +kernel)) (by decide +kernel)
theorem qm_Throwable : Cond.instantiable "java/lang/Throwable" 6 ∈ lw_all := lw_in (List.mem_of_getElem? (i := 350) (by decide +kernel)) (by decide +kernel)
theorem qa_byte : Cond.arrayClass .byte ∈ lw_all := lw_in (List.mem_of_getElem? (i := 378) (by decide +kernel)) (by decide +kernel)
theorem q_X5_349 : Cond.methodLink RX5 349 yX1_keep ∈ lw_all := lw_in (List.mem_of_getElem? (i := 379) (by decide +kernel)) (by decide +kernel)
theorem qi_X1_keep : Cond.instanceMethod yX1_keep ∈ lw_all := lw_in (List.mem_of_getElem? (i := 380) (by decide +kernel)) (by decide +kernel)
theorem qs_X1_keep : Cond.selects RX1 yX1_keep yX1_keep ∈ lw_all := lw_in (List.mem_of_getElem? (i := 381) (by decide +kernel)) (by decide +kernel)
theorem qc_X1_keep : Cond.code yX1_keep cX1_keep 3 none ∈ lw_all := lw_in (List.mem_of_getElem? (i := 382) (by decide +kernel)) (by decide +kernel)
theorem q_X1_25 : Cond.methodLink RX1 25 yX1_slot ∈ lw_all := lw_in (List.mem_of_getElem? (i := 383) (by decide +kernel)) (by decide +kernel)
theorem qi_X1_slot : Cond.instanceMethod yX1_slot ∈ lw_all := lw_in (List.mem_of_getElem? (i := 385) (by decide +kernel)) (by decide +kernel)
theorem qc_X1_slot : Cond.code yX1_slot cX1_slot 2 (some (.object "MirageSurvey$Flat")) ∈ lw_all := lw_in (List.mem_of_getElem? (i := 386) (by decide +kernel)) (by decide +kernel)
theorem q_X1_29 : Cond.methodLink RX1 29 yX0_copyFrom ∈ lw_all := lw_in (List.mem_of_getElem? (i := 387) (by decide +kernel)) (by decide +kernel)
theorem q_X1_33 : Cond.methodLink RX1 33 Lib.Math.min.name ∈ lw_all := lw_in (List.mem_of_getElem? (i := 388) (by decide +kernel)) (by decide +kernel)
theorem q_L_174 : Cond.methodLink RL 174 yL_post ∈ lw_all := lw_in (List.mem_of_getElem? (i := 389) (by decide +kernel)) (by decide +kernel)
theorem qt_L_post : Cond.static yL_post ∈ lw_all := lw_in (List.mem_of_getElem? (i := 390) (by decide +kernel)) (by decide +kernel)
theorem qw_L_post : Cond.codeWith yL_post cL_post 4 (some .int) [(0, 6, 7, 13)] ∈ lw_all := lw_in (List.mem_of_getElem? (i := 391) (by decide +kernel)) (by decide +kernel)
theorem q_L_15 : Cond.methodLink RL 15 yX5_post ∈ lw_all := lw_in (List.mem_of_getElem? (i := 392) (by decide +kernel)) (by decide +kernel)
theorem qi_X5_post : Cond.instanceMethod yX5_post ∈ lw_all := lw_in (List.mem_of_getElem? (i := 393) (by decide +kernel)) (by decide +kernel)
theorem qs_X5_post : Cond.selects RX5 yX5_post yX5_post ∈ lw_all := lw_in (List.mem_of_getElem? (i := 394) (by decide +kernel)) (by decide +kernel)
theorem qc_X5_post : Cond.code yX5_post cX5_post 3 (some .int) ∈ lw_all := lw_in (List.mem_of_getElem? (i := 395) (by decide +kernel)) (by decide +kernel)
theorem q_X5_73 : Cond.methodLink RX5 73 yX5_setUpPost ∈ lw_all := lw_in (List.mem_of_getElem? (i := 396) (by decide +kernel)) (by decide +kernel)
theorem qi_X5_setUpPost : Cond.instanceMethod yX5_setUpPost ∈ lw_all := lw_in (List.mem_of_getElem? (i := 398) (by decide +kernel)) (by decide +kernel)
theorem qc_X5_setUpPost : Cond.code yX5_setUpPost cX5_setUpPost 3 (some .int) ∈ lw_all := lw_in (List.mem_of_getElem? (i := 399) (by decide +kernel)) (by decide +kernel)
theorem q_L_177 : Cond.methodLink RL 177 yL_sheet ∈ lw_all := lw_in (List.mem_of_getElem? (i := 400) (by decide +kernel)) (by decide +kernel)
theorem qt_L_sheet : Cond.static yL_sheet ∈ lw_all := lw_in (List.mem_of_getElem? (i := 401) (by decide +kernel)) (by decide +kernel)
theorem qw_L_sheet : Cond.codeWith yL_sheet cL_sheet 2 (some .int) [(0, 4, 5, 13)] ∈ lw_all := lw_in (List.mem_of_getElem? (i := 402) (by decide +kernel)) (by decide +kernel)
theorem q_L_19 : Cond.methodLink RL 19 yX5_sheet ∈ lw_all := lw_in (List.mem_of_getElem? (i := 403) (by decide +kernel)) (by decide +kernel)
theorem qi_X5_sheet : Cond.instanceMethod yX5_sheet ∈ lw_all := lw_in (List.mem_of_getElem? (i := 404) (by decide +kernel)) (by decide +kernel)
theorem qs_X5_sheet : Cond.selects RX5 yX5_sheet yX5_sheet ∈ lw_all := lw_in (List.mem_of_getElem? (i := 405) (by decide +kernel)) (by decide +kernel)
theorem qc_X5_sheet : Cond.code yX5_sheet cX5_sheet 1 (some .int) ∈ lw_all := lw_in (List.mem_of_getElem? (i := 406) (by decide +kernel)) (by decide +kernel)
theorem q_X5_77 : Cond.methodLink RX5 77 yX5_addSheet ∈ lw_all := lw_in (List.mem_of_getElem? (i := 407) (by decide +kernel)) (by decide +kernel)
theorem qi_X5_addSheet : Cond.instanceMethod yX5_addSheet ∈ lw_all := lw_in (List.mem_of_getElem? (i := 409) (by decide +kernel)) (by decide +kernel)
theorem qc_X5_addSheet : Cond.code yX5_addSheet cX5_addSheet 1 (some .int) ∈ lw_all := lw_in (List.mem_of_getElem? (i := 410) (by decide +kernel)) (by decide +kernel)
theorem q_L_181 : Cond.methodLink RL 181 yL_heat ∈ lw_all := lw_in (List.mem_of_getElem? (i := 411) (by decide +kernel)) (by decide +kernel)
theorem qt_L_heat : Cond.static yL_heat ∈ lw_all := lw_in (List.mem_of_getElem? (i := 412) (by decide +kernel)) (by decide +kernel)
theorem qw_L_heat : Cond.codeWith yL_heat cL_heat 3 (some .int) [(0, 5, 6, 13)] ∈ lw_all := lw_in (List.mem_of_getElem? (i := 413) (by decide +kernel)) (by decide +kernel)
theorem q_L_23 : Cond.methodLink RL 23 yX5_heat ∈ lw_all := lw_in (List.mem_of_getElem? (i := 414) (by decide +kernel)) (by decide +kernel)
theorem qi_X5_heat : Cond.instanceMethod yX5_heat ∈ lw_all := lw_in (List.mem_of_getElem? (i := 415) (by decide +kernel)) (by decide +kernel)
theorem qs_X5_heat : Cond.selects RX5 yX5_heat yX5_heat ∈ lw_all := lw_in (List.mem_of_getElem? (i := 416) (by decide +kernel)) (by decide +kernel)
theorem qc_X5_heat : Cond.code yX5_heat cX5_heat 2 (some .int) ∈ lw_all := lw_in (List.mem_of_getElem? (i := 417) (by decide +kernel)) (by decide +kernel)
theorem q_X5_81 : Cond.methodLink RX5 81 yX5_setDayHeat ∈ lw_all := lw_in (List.mem_of_getElem? (i := 418) (by decide +kernel)) (by decide +kernel)
theorem qi_X5_setDayHeat : Cond.instanceMethod yX5_setDayHeat ∈ lw_all := lw_in (List.mem_of_getElem? (i := 420) (by decide +kernel)) (by decide +kernel)
theorem qc_X5_setDayHeat : Cond.code yX5_setDayHeat cX5_setDayHeat 2 (some .int) ∈ lw_all := lw_in (List.mem_of_getElem? (i := 421) (by decide +kernel)) (by decide +kernel)
theorem q_X5_185 : Cond.methodLink RX5 185 yX0_heatNow ∈ lw_all := lw_in (List.mem_of_getElem? (i := 422) (by decide +kernel)) (by decide +kernel)
theorem qi_X0_heatNow : Cond.instanceMethod yX0_heatNow ∈ lw_all := lw_in (List.mem_of_getElem? (i := 423) (by decide +kernel)) (by decide +kernel)
theorem qs_X0_heatNow : Cond.selects RX0 yX0_heatNow yX0_heatNow ∈ lw_all := lw_in (List.mem_of_getElem? (i := 424) (by decide +kernel)) (by decide +kernel)
theorem qc_X0_heatNow : Cond.code yX0_heatNow cX0_heatNow 1 (some .int) ∈ lw_all := lw_in (List.mem_of_getElem? (i := 425) (by decide +kernel)) (by decide +kernel)
theorem q_X0_65 : Cond.methodLink RX0 65 yX0_heatAt ∈ lw_all := lw_in (List.mem_of_getElem? (i := 426) (by decide +kernel)) (by decide +kernel)
end
section
/-! words, part 2 -/
theorem qi_X0_heatAt : Cond.instanceMethod yX0_heatAt ∈ lw_all := lw_in (List.mem_of_getElem? (i := 427) (by decide +kernel)) (by decide +kernel)
theorem qs_X0_heatAt : Cond.selects RX0 yX0_heatAt yX0_heatAt ∈ lw_all := lw_in (List.mem_of_getElem? (i := 428) (by decide +kernel)) (by decide +kernel)
theorem qc_X0_heatAt : Cond.code yX0_heatAt cX0_heatAt 4 (some .int) ∈ lw_all := lw_in (List.mem_of_getElem? (i := 429) (by decide +kernel)) (by decide +kernel)
theorem q_L_234 : Cond.methodLink RL 234 yL_sight ∈ lw_all := lw_in (List.mem_of_getElem? (i := 430) (by decide +kernel)) (by decide +kernel)
theorem qt_L_sight : Cond.static yL_sight ∈ lw_all := lw_in (List.mem_of_getElem? (i := 431) (by decide +kernel)) (by decide +kernel)
theorem qw_L_sight : Cond.codeWith yL_sight cL_sight 5 (some .int) [(0, 7, 8, 13)] ∈ lw_all := lw_in (List.mem_of_getElem? (i := 432) (by decide +kernel)) (by decide +kernel)
theorem q_L_26 : Cond.methodLink RL 26 yX5_sight ∈ lw_all := lw_in (List.mem_of_getElem? (i := 433) (by decide +kernel)) (by decide +kernel)
theorem qi_X5_sight : Cond.instanceMethod yX5_sight ∈ lw_all := lw_in (List.mem_of_getElem? (i := 434) (by decide +kernel)) (by decide +kernel)
theorem qs_X5_sight : Cond.selects RX5 yX5_sight yX5_sight ∈ lw_all := lw_in (List.mem_of_getElem? (i := 435) (by decide +kernel)) (by decide +kernel)
theorem qc_X5_sight : Cond.code yX5_sight cX5_sight 4 (some .int) ∈ lw_all := lw_in (List.mem_of_getElem? (i := 436) (by decide +kernel)) (by decide +kernel)
theorem q_X5_84 : Cond.methodLink RX5 84 yX5_drawSighted ∈ lw_all := lw_in (List.mem_of_getElem? (i := 437) (by decide +kernel)) (by decide +kernel)
theorem qi_X5_drawSighted : Cond.instanceMethod yX5_drawSighted ∈ lw_all := lw_in (List.mem_of_getElem? (i := 439) (by decide +kernel)) (by decide +kernel)
theorem qc_X5_drawSighted : Cond.code yX5_drawSighted cX5_drawSighted 6 (some .int) ∈ lw_all := lw_in (List.mem_of_getElem? (i := 440) (by decide +kernel)) (by decide +kernel)
theorem q_X5_362 : Cond.methodLink RX5 362 yX3_has ∈ lw_all := lw_in (List.mem_of_getElem? (i := 441) (by decide +kernel)) (by decide +kernel)
theorem qi_X3_has : Cond.instanceMethod yX3_has ∈ lw_all := lw_in (List.mem_of_getElem? (i := 442) (by decide +kernel)) (by decide +kernel)
theorem qs_X3_has : Cond.selects RX3 yX3_has yX3_has ∈ lw_all := lw_in (List.mem_of_getElem? (i := 443) (by decide +kernel)) (by decide +kernel)
theorem qc_X3_has : Cond.code yX3_has cX3_has 2 (some .boolean) ∈ lw_all := lw_in (List.mem_of_getElem? (i := 444) (by decide +kernel)) (by decide +kernel)
theorem q_X5_365 : Cond.methodLink RX5 365 yX0_hasSheet ∈ lw_all := lw_in (List.mem_of_getElem? (i := 445) (by decide +kernel)) (by decide +kernel)
theorem qi_X0_hasSheet : Cond.instanceMethod yX0_hasSheet ∈ lw_all := lw_in (List.mem_of_getElem? (i := 446) (by decide +kernel)) (by decide +kernel)
theorem qs_X0_hasSheet : Cond.selects RX0 yX0_hasSheet yX0_hasSheet ∈ lw_all := lw_in (List.mem_of_getElem? (i := 447) (by decide +kernel)) (by decide +kernel)
theorem qc_X0_hasSheet : Cond.code yX0_hasSheet cX0_hasSheet 2 (some .boolean) ∈ lw_all := lw_in (List.mem_of_getElem? (i := 448) (by decide +kernel)) (by decide +kernel)
theorem q_X5_368 : Cond.methodLink RX5 368 yX0_heatTooMuch ∈ lw_all := lw_in (List.mem_of_getElem? (i := 449) (by decide +kernel)) (by decide +kernel)
theorem qi_X0_heatTooMuch : Cond.instanceMethod yX0_heatTooMuch ∈ lw_all := lw_in (List.mem_of_getElem? (i := 450) (by decide +kernel)) (by decide +kernel)
theorem qs_X0_heatTooMuch : Cond.selects RX0 yX0_heatTooMuch yX0_heatTooMuch ∈ lw_all := lw_in (List.mem_of_getElem? (i := 451) (by decide +kernel)) (by decide +kernel)
theorem qc_X0_heatTooMuch : Cond.code yX0_heatTooMuch cX0_heatTooMuch 6 (some .int) ∈ lw_all := lw_in (List.mem_of_getElem? (i := 452) (by decide +kernel)) (by decide +kernel)
theorem q_X0_68 : Cond.methodLink RX0 68 yX0_heatNow ∈ lw_all := lw_in (List.mem_of_getElem? (i := 453) (by decide +kernel)) (by decide +kernel)
theorem q_X0_80 : Cond.methodLink RX0 80 yX0_farFrom ∈ lw_all := lw_in (List.mem_of_getElem? (i := 454) (by decide +kernel)) (by decide +kernel)
theorem qi_X0_farFrom : Cond.instanceMethod yX0_farFrom ∈ lw_all := lw_in (List.mem_of_getElem? (i := 455) (by decide +kernel)) (by decide +kernel)
theorem qs_X0_farFrom : Cond.selects RX0 yX0_farFrom yX0_farFrom ∈ lw_all := lw_in (List.mem_of_getElem? (i := 456) (by decide +kernel)) (by decide +kernel)
theorem qc_X0_farFrom : Cond.code yX0_farFrom cX0_farFrom 3 (some .int) ∈ lw_all := lw_in (List.mem_of_getElem? (i := 457) (by decide +kernel)) (by decide +kernel)
theorem q_X0_72 : Cond.methodLink RX0 72 yX3_get ∈ lw_all := lw_in (List.mem_of_getElem? (i := 458) (by decide +kernel)) (by decide +kernel)
theorem q_X0_75 : Cond.methodLink RX0 75 Lib.Math.abs.name ∈ lw_all := lw_in (List.mem_of_getElem? (i := 459) (by decide +kernel)) (by decide +kernel)
theorem qt_abs : Cond.static Lib.Math.abs.name ∈ lw_all := lw_in (List.mem_of_getElem? (i := 460) (by decide +kernel)) (by decide +kernel)
theorem qc_abs : Cond.code Lib.Math.abs.name Lib.Math.abs.code 1 (some .int) ∈ lw_all := lw_in (List.mem_of_getElem? (i := 461) (by decide +kernel)) (by decide +kernel)
theorem q_X0_84 : Cond.methodLink RX0 84 yX0_isTooHot ∈ lw_all := lw_in (List.mem_of_getElem? (i := 462) (by decide +kernel)) (by decide +kernel)
theorem qt_X0_isTooHot : Cond.static yX0_isTooHot ∈ lw_all := lw_in (List.mem_of_getElem? (i := 463) (by decide +kernel)) (by decide +kernel)
theorem qc_X0_isTooHot : Cond.code yX0_isTooHot cX0_isTooHot 3 (some .boolean) ∈ lw_all := lw_in (List.mem_of_getElem? (i := 464) (by decide +kernel)) (by decide +kernel)
theorem q_X5_179 : Cond.methodLink RX5 179 yX0_seemingPlace ∈ lw_all := lw_in (List.mem_of_getElem? (i := 465) (by decide +kernel)) (by decide +kernel)
theorem qi_X0_seemingPlace : Cond.instanceMethod yX0_seemingPlace ∈ lw_all := lw_in (List.mem_of_getElem? (i := 466) (by decide +kernel)) (by decide +kernel)
theorem qs_X0_seemingPlace : Cond.selects RX0 yX0_seemingPlace yX0_seemingPlace ∈ lw_all := lw_in (List.mem_of_getElem? (i := 467) (by decide +kernel)) (by decide +kernel)
theorem qc_X0_seemingPlace : Cond.code yX0_seemingPlace cX0_seemingPlace 3 (some .int) ∈ lw_all := lw_in (List.mem_of_getElem? (i := 468) (by decide +kernel)) (by decide +kernel)
theorem q_X0_91 : Cond.methodLink RX0 91 yX0_bendingWay ∈ lw_all := lw_in (List.mem_of_getElem? (i := 469) (by decide +kernel)) (by decide +kernel)
theorem qi_X0_bendingWay : Cond.instanceMethod yX0_bendingWay ∈ lw_all := lw_in (List.mem_of_getElem? (i := 470) (by decide +kernel)) (by decide +kernel)
theorem qs_X0_bendingWay : Cond.selects RX0 yX0_bendingWay yX0_bendingWay ∈ lw_all := lw_in (List.mem_of_getElem? (i := 471) (by decide +kernel)) (by decide +kernel)
theorem qc_X0_bendingWay : Cond.code yX0_bendingWay cX0_bendingWay 4 (some .int) ∈ lw_all := lw_in (List.mem_of_getElem? (i := 472) (by decide +kernel)) (by decide +kernel)
theorem qt_X5_wayTo : Cond.static yX5_wayTo ∈ lw_all := lw_in (List.mem_of_getElem? (i := 474) (by decide +kernel)) (by decide +kernel)
theorem qc_X5_wayTo : Cond.code yX5_wayTo cX5_wayTo 2 (some .int) ∈ lw_all := lw_in (List.mem_of_getElem? (i := 475) (by decide +kernel)) (by decide +kernel)
theorem q_X0_94 : Cond.methodLink RX0 94 yX0_bending ∈ lw_all := lw_in (List.mem_of_getElem? (i := 476) (by decide +kernel)) (by decide +kernel)
theorem qi_X0_bending : Cond.instanceMethod yX0_bending ∈ lw_all := lw_in (List.mem_of_getElem? (i := 477) (by decide +kernel)) (by decide +kernel)
theorem qs_X0_bending : Cond.selects RX0 yX0_bending yX0_bending ∈ lw_all := lw_in (List.mem_of_getElem? (i := 478) (by decide +kernel)) (by decide +kernel)
theorem qc_X0_bending : Cond.code yX0_bending cX0_bending 3 (some .int) ∈ lw_all := lw_in (List.mem_of_getElem? (i := 479) (by decide +kernel)) (by decide +kernel)
theorem qt_X5_nearestPlace : Cond.static yX5_nearestPlace ∈ lw_all := lw_in (List.mem_of_getElem? (i := 481) (by decide +kernel)) (by decide +kernel)
theorem qc_X5_nearestPlace : Cond.code yX5_nearestPlace cX5_nearestPlace 1 (some .int) ∈ lw_all := lw_in (List.mem_of_getElem? (i := 482) (by decide +kernel)) (by decide +kernel)
theorem q_X5_387 : Cond.methodLink RX5 387 Lib.Math.min.name ∈ lw_all := lw_in (List.mem_of_getElem? (i := 483) (by decide +kernel)) (by decide +kernel)
theorem q_X5_390 : Cond.methodLink RX5 390 Lib.Math.max.name ∈ lw_all := lw_in (List.mem_of_getElem? (i := 484) (by decide +kernel)) (by decide +kernel)
theorem qt_max : Cond.static Lib.Math.max.name ∈ lw_all := lw_in (List.mem_of_getElem? (i := 485) (by decide +kernel)) (by decide +kernel)
theorem qc_max : Cond.code Lib.Math.max.name Lib.Math.max.code 2 (some .int) ∈ lw_all := lw_in (List.mem_of_getElem? (i := 486) (by decide +kernel)) (by decide +kernel)
theorem q_X5_371 : Cond.methodLink RX5 371 yX0_draw ∈ lw_all := lw_in (List.mem_of_getElem? (i := 487) (by decide +kernel)) (by decide +kernel)
theorem qi_X0_draw : Cond.instanceMethod yX0_draw ∈ lw_all := lw_in (List.mem_of_getElem? (i := 488) (by decide +kernel)) (by decide +kernel)
theorem qs_X0_draw : Cond.selects RX0 yX0_draw yX0_draw ∈ lw_all := lw_in (List.mem_of_getElem? (i := 489) (by decide +kernel)) (by decide +kernel)
theorem qc_X0_draw : Cond.code yX0_draw cX0_draw 4 none ∈ lw_all := lw_in (List.mem_of_getElem? (i := 490) (by decide +kernel)) (by decide +kernel)
theorem q_X0_116 : Cond.methodLink RX0 116 yX3_set ∈ lw_all := lw_in (List.mem_of_getElem? (i := 491) (by decide +kernel)) (by decide +kernel)
theorem qi_X3_set : Cond.instanceMethod yX3_set ∈ lw_all := lw_in (List.mem_of_getElem? (i := 492) (by decide +kernel)) (by decide +kernel)
theorem qs_X3_set : Cond.selects RX3 yX3_set yX3_set ∈ lw_all := lw_in (List.mem_of_getElem? (i := 493) (by decide +kernel)) (by decide +kernel)
theorem qc_X3_set : Cond.code yX3_set cX3_set 3 none ∈ lw_all := lw_in (List.mem_of_getElem? (i := 494) (by decide +kernel)) (by decide +kernel)
theorem q_L_179 : Cond.methodLink RL 179 yL_camel ∈ lw_all := lw_in (List.mem_of_getElem? (i := 495) (by decide +kernel)) (by decide +kernel)
theorem qt_L_camel : Cond.static yL_camel ∈ lw_all := lw_in (List.mem_of_getElem? (i := 496) (by decide +kernel)) (by decide +kernel)
theorem qw_L_camel : Cond.codeWith yL_camel cL_camel 3 (some .int) [(0, 5, 6, 13)] ∈ lw_all := lw_in (List.mem_of_getElem? (i := 497) (by decide +kernel)) (by decide +kernel)
theorem q_L_33 : Cond.methodLink RL 33 yX5_camel ∈ lw_all := lw_in (List.mem_of_getElem? (i := 498) (by decide +kernel)) (by decide +kernel)
theorem qi_X5_camel : Cond.instanceMethod yX5_camel ∈ lw_all := lw_in (List.mem_of_getElem? (i := 499) (by decide +kernel)) (by decide +kernel)
theorem qs_X5_camel : Cond.selects RX5 yX5_camel yX5_camel ∈ lw_all := lw_in (List.mem_of_getElem? (i := 500) (by decide +kernel)) (by decide +kernel)
theorem qc_X5_camel : Cond.code yX5_camel cX5_camel 2 (some .int) ∈ lw_all := lw_in (List.mem_of_getElem? (i := 501) (by decide +kernel)) (by decide +kernel)
theorem q_X5_91 : Cond.methodLink RX5 91 yX5_bringCamel ∈ lw_all := lw_in (List.mem_of_getElem? (i := 502) (by decide +kernel)) (by decide +kernel)
theorem qi_X5_bringCamel : Cond.instanceMethod yX5_bringCamel ∈ lw_all := lw_in (List.mem_of_getElem? (i := 504) (by decide +kernel)) (by decide +kernel)
theorem qc_X5_bringCamel : Cond.code yX5_bringCamel cX5_bringCamel 2 (some .int) ∈ lw_all := lw_in (List.mem_of_getElem? (i := 505) (by decide +kernel)) (by decide +kernel)
theorem q_L_239 : Cond.methodLink RL 239 yL_bell ∈ lw_all := lw_in (List.mem_of_getElem? (i := 506) (by decide +kernel)) (by decide +kernel)
theorem qt_L_bell : Cond.static yL_bell ∈ lw_all := lw_in (List.mem_of_getElem? (i := 507) (by decide +kernel)) (by decide +kernel)
theorem qw_L_bell : Cond.codeWith yL_bell cL_bell 3 (some .int) [(0, 5, 6, 13)] ∈ lw_all := lw_in (List.mem_of_getElem? (i := 508) (by decide +kernel)) (by decide +kernel)
theorem q_L_36 : Cond.methodLink RL 36 yX5_bell ∈ lw_all := lw_in (List.mem_of_getElem? (i := 509) (by decide +kernel)) (by decide +kernel)
theorem qi_X5_bell : Cond.instanceMethod yX5_bell ∈ lw_all := lw_in (List.mem_of_getElem? (i := 510) (by decide +kernel)) (by decide +kernel)
theorem qs_X5_bell : Cond.selects RX5 yX5_bell yX5_bell ∈ lw_all := lw_in (List.mem_of_getElem? (i := 511) (by decide +kernel)) (by decide +kernel)
theorem qc_X5_bell : Cond.code yX5_bell cX5_bell 2 (some .int) ∈ lw_all := lw_in (List.mem_of_getElem? (i := 512) (by decide +kernel)) (by decide +kernel)
theorem q_X5_94 : Cond.methodLink RX5 94 yX5_ringBell ∈ lw_all := lw_in (List.mem_of_getElem? (i := 513) (by decide +kernel)) (by decide +kernel)
theorem qi_X5_ringBell : Cond.instanceMethod yX5_ringBell ∈ lw_all := lw_in (List.mem_of_getElem? (i := 515) (by decide +kernel)) (by decide +kernel)
theorem qc_X5_ringBell : Cond.code yX5_ringBell cX5_ringBell 4 (some .int) ∈ lw_all := lw_in (List.mem_of_getElem? (i := 516) (by decide +kernel)) (by decide +kernel)
theorem q_X5_171 : Cond.methodLink RX5 171 yX3_size ∈ lw_all := lw_in (List.mem_of_getElem? (i := 517) (by decide +kernel)) (by decide +kernel)
theorem qi_X3_size : Cond.instanceMethod yX3_size ∈ lw_all := lw_in (List.mem_of_getElem? (i := 518) (by decide +kernel)) (by decide +kernel)
theorem qs_X3_size : Cond.selects RX3 yX3_size yX3_size ∈ lw_all := lw_in (List.mem_of_getElem? (i := 519) (by decide +kernel)) (by decide +kernel)
theorem qc_X3_size : Cond.code yX3_size cX3_size 1 (some .int) ∈ lw_all := lw_in (List.mem_of_getElem? (i := 520) (by decide +kernel)) (by decide +kernel)
theorem q_X5_374 : Cond.methodLink RX5 374 yX0_callCamel ∈ lw_all := lw_in (List.mem_of_getElem? (i := 521) (by decide +kernel)) (by decide +kernel)
theorem qi_X0_callCamel : Cond.instanceMethod yX0_callCamel ∈ lw_all := lw_in (List.mem_of_getElem? (i := 522) (by decide +kernel)) (by decide +kernel)
theorem qs_X0_callCamel : Cond.selects RX0 yX0_callCamel yX0_callCamel ∈ lw_all := lw_in (List.mem_of_getElem? (i := 523) (by decide +kernel)) (by decide +kernel)
theorem qc_X0_callCamel : Cond.code yX0_callCamel cX0_callCamel 5 none ∈ lw_all := lw_in (List.mem_of_getElem? (i := 524) (by decide +kernel)) (by decide +kernel)
theorem q_X0_123 : Cond.methodLink RX0 123 yX0_isRoaming ∈ lw_all := lw_in (List.mem_of_getElem? (i := 525) (by decide +kernel)) (by decide +kernel)
theorem qi_X0_isRoaming : Cond.instanceMethod yX0_isRoaming ∈ lw_all := lw_in (List.mem_of_getElem? (i := 526) (by decide +kernel)) (by decide +kernel)
theorem qs_X0_isRoaming : Cond.selects RX0 yX0_isRoaming yX0_isRoaming ∈ lw_all := lw_in (List.mem_of_getElem? (i := 527) (by decide +kernel)) (by decide +kernel)
theorem qc_X0_isRoaming : Cond.code yX0_isRoaming cX0_isRoaming 2 (some .boolean) ∈ lw_all := lw_in (List.mem_of_getElem? (i := 528) (by decide +kernel)) (by decide +kernel)
theorem q_X0_120 : Cond.methodLink RX0 120 yX0_isLost ∈ lw_all := lw_in (List.mem_of_getElem? (i := 529) (by decide +kernel)) (by decide +kernel)
theorem qi_X0_isLost : Cond.instanceMethod yX0_isLost ∈ lw_all := lw_in (List.mem_of_getElem? (i := 530) (by decide +kernel)) (by decide +kernel)
theorem qs_X0_isLost : Cond.selects RX0 yX0_isLost yX0_isLost ∈ lw_all := lw_in (List.mem_of_getElem? (i := 531) (by decide +kernel)) (by decide +kernel)
theorem qc_X0_isLost : Cond.code yX0_isLost cX0_isLost 2 (some .boolean) ∈ lw_all := lw_in (List.mem_of_getElem? (i := 532) (by decide +kernel)) (by decide +kernel)
theorem q_X0_126 : Cond.methodLink RX0 126 yX0_bellReach ∈ lw_all := lw_in (List.mem_of_getElem? (i := 533) (by decide +kernel)) (by decide +kernel)
theorem qi_X0_bellReach : Cond.instanceMethod yX0_bellReach ∈ lw_all := lw_in (List.mem_of_getElem? (i := 534) (by decide +kernel)) (by decide +kernel)
theorem qs_X0_bellReach : Cond.selects RX0 yX0_bellReach yX0_bellReach ∈ lw_all := lw_in (List.mem_of_getElem? (i := 535) (by decide +kernel)) (by decide +kernel)
theorem qc_X0_bellReach : Cond.code yX0_bellReach cX0_bellReach 1 (some .int) ∈ lw_all := lw_in (List.mem_of_getElem? (i := 536) (by decide +kernel)) (by decide +kernel)
theorem q_X0_129 : Cond.methodLink RX0 129 Lib.Math.min.name ∈ lw_all := lw_in (List.mem_of_getElem? (i := 537) (by decide +kernel)) (by decide +kernel)
theorem q_X5_120 : Cond.methodLink RX5 120 yX3_get ∈ lw_all := lw_in (List.mem_of_getElem? (i := 538) (by decide +kernel)) (by decide +kernel)
theorem q_L_241 : Cond.methodLink RL 241 yL_tie ∈ lw_all := lw_in (List.mem_of_getElem? (i := 539) (by decide +kernel)) (by decide +kernel)
theorem qt_L_tie : Cond.static yL_tie ∈ lw_all := lw_in (List.mem_of_getElem? (i := 540) (by decide +kernel)) (by decide +kernel)
theorem qw_L_tie : Cond.codeWith yL_tie cL_tie 3 (some .int) [(0, 5, 6, 13)] ∈ lw_all := lw_in (List.mem_of_getElem? (i := 541) (by decide +kernel)) (by decide +kernel)
theorem q_L_39 : Cond.methodLink RL 39 yX5_tie ∈ lw_all := lw_in (List.mem_of_getElem? (i := 542) (by decide +kernel)) (by decide +kernel)
theorem qi_X5_tie : Cond.instanceMethod yX5_tie ∈ lw_all := lw_in (List.mem_of_getElem? (i := 543) (by decide +kernel)) (by decide +kernel)
theorem qs_X5_tie : Cond.selects RX5 yX5_tie yX5_tie ∈ lw_all := lw_in (List.mem_of_getElem? (i := 544) (by decide +kernel)) (by decide +kernel)
theorem qc_X5_tie : Cond.code yX5_tie cX5_tie 2 (some .int) ∈ lw_all := lw_in (List.mem_of_getElem? (i := 545) (by decide +kernel)) (by decide +kernel)
theorem q_X5_97 : Cond.methodLink RX5 97 yX5_tieCamel ∈ lw_all := lw_in (List.mem_of_getElem? (i := 546) (by decide +kernel)) (by decide +kernel)
theorem qi_X5_tieCamel : Cond.instanceMethod yX5_tieCamel ∈ lw_all := lw_in (List.mem_of_getElem? (i := 548) (by decide +kernel)) (by decide +kernel)
theorem qc_X5_tieCamel : Cond.code yX5_tieCamel cX5_tieCamel 3 (some .int) ∈ lw_all := lw_in (List.mem_of_getElem? (i := 549) (by decide +kernel)) (by decide +kernel)
theorem q_X5_146 : Cond.methodLink RX5 146 yX0_isLost ∈ lw_all := lw_in (List.mem_of_getElem? (i := 550) (by decide +kernel)) (by decide +kernel)
theorem q_X5_378 : Cond.methodLink RX5 378 yX0_farToPost ∈ lw_all := lw_in (List.mem_of_getElem? (i := 551) (by decide +kernel)) (by decide +kernel)
theorem qi_X0_farToPost : Cond.instanceMethod yX0_farToPost ∈ lw_all := lw_in (List.mem_of_getElem? (i := 552) (by decide +kernel)) (by decide +kernel)
theorem qs_X0_farToPost : Cond.selects RX0 yX0_farToPost yX0_farToPost ∈ lw_all := lw_in (List.mem_of_getElem? (i := 553) (by decide +kernel)) (by decide +kernel)
theorem qc_X0_farToPost : Cond.code yX0_farToPost cX0_farToPost 5 (some .int) ∈ lw_all := lw_in (List.mem_of_getElem? (i := 554) (by decide +kernel)) (by decide +kernel)
theorem q_X0_104 : Cond.methodLink RX0 104 yX3_size ∈ lw_all := lw_in (List.mem_of_getElem? (i := 555) (by decide +kernel)) (by decide +kernel)
theorem q_X5_381 : Cond.methodLink RX5 381 yX3_set ∈ lw_all := lw_in (List.mem_of_getElem? (i := 556) (by decide +kernel)) (by decide +kernel)
theorem q_X5_303 : Cond.methodLink RX5 303 yX3_sum ∈ lw_all := lw_in (List.mem_of_getElem? (i := 557) (by decide +kernel)) (by decide +kernel)
theorem qi_X3_sum : Cond.instanceMethod yX3_sum ∈ lw_all := lw_in (List.mem_of_getElem? (i := 558) (by decide +kernel)) (by decide +kernel)
theorem qs_X3_sum : Cond.selects RX3 yX3_sum yX3_sum ∈ lw_all := lw_in (List.mem_of_getElem? (i := 559) (by decide +kernel)) (by decide +kernel)
theorem qc_X3_sum : Cond.code yX3_sum cX3_sum 3 (some .int) ∈ lw_all := lw_in (List.mem_of_getElem? (i := 560) (by decide +kernel)) (by decide +kernel)
theorem q_L_243 : Cond.methodLink RL 243 yL_loose ∈ lw_all := lw_in (List.mem_of_getElem? (i := 561) (by decide +kernel)) (by decide +kernel)
theorem qt_L_loose : Cond.static yL_loose ∈ lw_all := lw_in (List.mem_of_getElem? (i := 562) (by decide +kernel)) (by decide +kernel)
theorem qw_L_loose : Cond.codeWith yL_loose cL_loose 3 (some .int) [(0, 5, 6, 13)] ∈ lw_all := lw_in (List.mem_of_getElem? (i := 563) (by decide +kernel)) (by decide +kernel)
theorem q_L_42 : Cond.methodLink RL 42 yX5_loose ∈ lw_all := lw_in (List.mem_of_getElem? (i := 564) (by decide +kernel)) (by decide +kernel)
theorem qi_X5_loose : Cond.instanceMethod yX5_loose ∈ lw_all := lw_in (List.mem_of_getElem? (i := 565) (by decide +kernel)) (by decide +kernel)
theorem qs_X5_loose : Cond.selects RX5 yX5_loose yX5_loose ∈ lw_all := lw_in (List.mem_of_getElem? (i := 566) (by decide +kernel)) (by decide +kernel)
theorem qc_X5_loose : Cond.code yX5_loose cX5_loose 2 (some .int) ∈ lw_all := lw_in (List.mem_of_getElem? (i := 567) (by decide +kernel)) (by decide +kernel)
theorem q_X5_100 : Cond.methodLink RX5 100 yX5_loosenCamel ∈ lw_all := lw_in (List.mem_of_getElem? (i := 568) (by decide +kernel)) (by decide +kernel)
theorem qi_X5_loosenCamel : Cond.instanceMethod yX5_loosenCamel ∈ lw_all := lw_in (List.mem_of_getElem? (i := 570) (by decide +kernel)) (by decide +kernel)
theorem qc_X5_loosenCamel : Cond.code yX5_loosenCamel cX5_loosenCamel 2 (some .int) ∈ lw_all := lw_in (List.mem_of_getElem? (i := 571) (by decide +kernel)) (by decide +kernel)
theorem q_L_245 : Cond.methodLink RL 245 yL_drink ∈ lw_all := lw_in (List.mem_of_getElem? (i := 572) (by decide +kernel)) (by decide +kernel)
theorem qt_L_drink : Cond.static yL_drink ∈ lw_all := lw_in (List.mem_of_getElem? (i := 573) (by decide +kernel)) (by decide +kernel)
theorem qw_L_drink : Cond.codeWith yL_drink cL_drink 3 (some .int) [(0, 5, 6, 13)] ∈ lw_all := lw_in (List.mem_of_getElem? (i := 574) (by decide +kernel)) (by decide +kernel)
theorem q_L_45 : Cond.methodLink RL 45 yX5_drink ∈ lw_all := lw_in (List.mem_of_getElem? (i := 575) (by decide +kernel)) (by decide +kernel)
theorem qi_X5_drink : Cond.instanceMethod yX5_drink ∈ lw_all := lw_in (List.mem_of_getElem? (i := 576) (by decide +kernel)) (by decide +kernel)
theorem qs_X5_drink : Cond.selects RX5 yX5_drink yX5_drink ∈ lw_all := lw_in (List.mem_of_getElem? (i := 577) (by decide +kernel)) (by decide +kernel)
theorem qc_X5_drink : Cond.code yX5_drink cX5_drink 2 (some .int) ∈ lw_all := lw_in (List.mem_of_getElem? (i := 578) (by decide +kernel)) (by decide +kernel)
theorem q_X5_103 : Cond.methodLink RX5 103 yX5_waterCamel ∈ lw_all := lw_in (List.mem_of_getElem? (i := 579) (by decide +kernel)) (by decide +kernel)
theorem qi_X5_waterCamel : Cond.instanceMethod yX5_waterCamel ∈ lw_all := lw_in (List.mem_of_getElem? (i := 581) (by decide +kernel)) (by decide +kernel)
theorem qc_X5_waterCamel : Cond.code yX5_waterCamel cX5_waterCamel 4 (some .int) ∈ lw_all := lw_in (List.mem_of_getElem? (i := 582) (by decide +kernel)) (by decide +kernel)
theorem q_L_247 : Cond.methodLink RL 247 yL_water ∈ lw_all := lw_in (List.mem_of_getElem? (i := 583) (by decide +kernel)) (by decide +kernel)
theorem qt_L_water : Cond.static yL_water ∈ lw_all := lw_in (List.mem_of_getElem? (i := 584) (by decide +kernel)) (by decide +kernel)
theorem qw_L_water : Cond.codeWith yL_water cL_water 3 (some .int) [(0, 5, 6, 13)] ∈ lw_all := lw_in (List.mem_of_getElem? (i := 585) (by decide +kernel)) (by decide +kernel)
theorem q_L_48 : Cond.methodLink RL 48 yX5_water ∈ lw_all := lw_in (List.mem_of_getElem? (i := 586) (by decide +kernel)) (by decide +kernel)
theorem qi_X5_water : Cond.instanceMethod yX5_water ∈ lw_all := lw_in (List.mem_of_getElem? (i := 587) (by decide +kernel)) (by decide +kernel)
theorem qs_X5_water : Cond.selects RX5 yX5_water yX5_water ∈ lw_all := lw_in (List.mem_of_getElem? (i := 588) (by decide +kernel)) (by decide +kernel)
theorem qc_X5_water : Cond.code yX5_water cX5_water 2 (some .int) ∈ lw_all := lw_in (List.mem_of_getElem? (i := 589) (by decide +kernel)) (by decide +kernel)
theorem q_X5_106 : Cond.methodLink RX5 106 yX5_bringWater ∈ lw_all := lw_in (List.mem_of_getElem? (i := 590) (by decide +kernel)) (by decide +kernel)
theorem qi_X5_bringWater : Cond.instanceMethod yX5_bringWater ∈ lw_all := lw_in (List.mem_of_getElem? (i := 592) (by decide +kernel)) (by decide +kernel)
theorem qc_X5_bringWater : Cond.code yX5_bringWater cX5_bringWater 2 (some .int) ∈ lw_all := lw_in (List.mem_of_getElem? (i := 593) (by decide +kernel)) (by decide +kernel)
theorem q_L_183 : Cond.methodLink RL 183 yL_hours ∈ lw_all := lw_in (List.mem_of_getElem? (i := 594) (by decide +kernel)) (by decide +kernel)
theorem qt_L_hours : Cond.static yL_hours ∈ lw_all := lw_in (List.mem_of_getElem? (i := 595) (by decide +kernel)) (by decide +kernel)
theorem qw_L_hours : Cond.codeWith yL_hours cL_hours 3 (some .int) [(0, 5, 6, 13)] ∈ lw_all := lw_in (List.mem_of_getElem? (i := 596) (by decide +kernel)) (by decide +kernel)
theorem q_L_51 : Cond.methodLink RL 51 yX5_hours ∈ lw_all := lw_in (List.mem_of_getElem? (i := 597) (by decide +kernel)) (by decide +kernel)
theorem qi_X5_hours : Cond.instanceMethod yX5_hours ∈ lw_all := lw_in (List.mem_of_getElem? (i := 598) (by decide +kernel)) (by decide +kernel)
theorem qs_X5_hours : Cond.selects RX5 yX5_hours yX5_hours ∈ lw_all := lw_in (List.mem_of_getElem? (i := 599) (by decide +kernel)) (by decide +kernel)
theorem qc_X5_hours : Cond.code yX5_hours cX5_hours 2 (some .int) ∈ lw_all := lw_in (List.mem_of_getElem? (i := 600) (by decide +kernel)) (by decide +kernel)
theorem q_X5_109 : Cond.methodLink RX5 109 yX5_passHours ∈ lw_all := lw_in (List.mem_of_getElem? (i := 601) (by decide +kernel)) (by decide +kernel)
theorem qi_X5_passHours : Cond.instanceMethod yX5_passHours ∈ lw_all := lw_in (List.mem_of_getElem? (i := 603) (by decide +kernel)) (by decide +kernel)
theorem qc_X5_passHours : Cond.code yX5_passHours cX5_passHours 4 (some .int) ∈ lw_all := lw_in (List.mem_of_getElem? (i := 604) (by decide +kernel)) (by decide +kernel)
theorem q_X5_318 : Cond.methodLink RX5 318 yX0_countLost ∈ lw_all := lw_in (List.mem_of_getElem? (i := 605) (by decide +kernel)) (by decide +kernel)
theorem qi_X0_countLost : Cond.instanceMethod yX0_countLost ∈ lw_all := lw_in (List.mem_of_getElem? (i := 606) (by decide +kernel)) (by decide +kernel)
theorem qs_X0_countLost : Cond.selects RX0 yX0_countLost yX0_countLost ∈ lw_all := lw_in (List.mem_of_getElem? (i := 607) (by decide +kernel)) (by decide +kernel)
theorem qc_X0_countLost : Cond.code yX0_countLost cX0_countLost 3 (some .int) ∈ lw_all := lw_in (List.mem_of_getElem? (i := 608) (by decide +kernel)) (by decide +kernel)
theorem q_X5_384 : Cond.methodLink RX5 384 yX0_passHour ∈ lw_all := lw_in (List.mem_of_getElem? (i := 609) (by decide +kernel)) (by decide +kernel)
theorem qi_X0_passHour : Cond.instanceMethod yX0_passHour ∈ lw_all := lw_in (List.mem_of_getElem? (i := 610) (by decide +kernel)) (by decide +kernel)
theorem qs_X0_passHour : Cond.selects RX0 yX0_passHour yX0_passHour ∈ lw_all := lw_in (List.mem_of_getElem? (i := 611) (by decide +kernel)) (by decide +kernel)
theorem qc_X0_passHour : Cond.code yX0_passHour cX0_passHour 3 none ∈ lw_all := lw_in (List.mem_of_getElem? (i := 612) (by decide +kernel)) (by decide +kernel)
theorem q_X0_135 : Cond.methodLink RX0 135 yX0_thirstAfter ∈ lw_all := lw_in (List.mem_of_getElem? (i := 613) (by decide +kernel)) (by decide +kernel)
theorem qi_X0_thirstAfter : Cond.instanceMethod yX0_thirstAfter ∈ lw_all := lw_in (List.mem_of_getElem? (i := 614) (by decide +kernel)) (by decide +kernel)
theorem qs_X0_thirstAfter : Cond.selects RX0 yX0_thirstAfter yX0_thirstAfter ∈ lw_all := lw_in (List.mem_of_getElem? (i := 615) (by decide +kernel)) (by decide +kernel)
theorem qc_X0_thirstAfter : Cond.code yX0_thirstAfter cX0_thirstAfter 3 (some .int) ∈ lw_all := lw_in (List.mem_of_getElem? (i := 616) (by decide +kernel)) (by decide +kernel)
theorem q_X0_138 : Cond.methodLink RX0 138 yX0_stray ∈ lw_all := lw_in (List.mem_of_getElem? (i := 617) (by decide +kernel)) (by decide +kernel)
theorem qi_X0_stray : Cond.instanceMethod yX0_stray ∈ lw_all := lw_in (List.mem_of_getElem? (i := 618) (by decide +kernel)) (by decide +kernel)
theorem qs_X0_stray : Cond.selects RX0 yX0_stray yX0_stray ∈ lw_all := lw_in (List.mem_of_getElem? (i := 619) (by decide +kernel)) (by decide +kernel)
theorem qc_X0_stray : Cond.code yX0_stray cX0_stray 2 none ∈ lw_all := lw_in (List.mem_of_getElem? (i := 620) (by decide +kernel)) (by decide +kernel)
theorem q_L_224 : Cond.methodLink RL 224 yL_camelOf ∈ lw_all := lw_in (List.mem_of_getElem? (i := 621) (by decide +kernel)) (by decide +kernel)
theorem qt_L_camelOf : Cond.static yL_camelOf ∈ lw_all := lw_in (List.mem_of_getElem? (i := 622) (by decide +kernel)) (by decide +kernel)
theorem qw_L_camelOf : Cond.codeWith yL_camelOf cL_camelOf 4 (some .int) [(0, 6, 7, 57), (0, 6, 12, 66)] ∈ lw_all := lw_in (List.mem_of_getElem? (i := 623) (by decide +kernel)) (by decide +kernel)
theorem ql_L_57 : Cond.classLink RL 57 "java/lang/IndexOutOfBoundsException" ∈ lw_all := lw_in (List.mem_of_getElem? (i := 624) (by decide +kernel)) (by decide +kernel)
theorem qm_ArrayIndexOutOfBoundsException : Cond.instantiable "java/lang/ArrayIndexOutOfBoundsException" 6 ∈ lw_all := lw_in (List.mem_of_getElem? (i := 625) (by decide +kernel)) (by decide +kernel)
theorem qi_Jx00060_init_a7421 : Cond.instanceMethod yJx00060_init_a7421 ∈ lw_all := lw_in (List.mem_of_getElem? (i := 626) (by decide +kernel)) (by decide +kernel)
theorem qc_Jx00060_init_a7421 : Cond.code yJx00060_init_a7421 cJx00060_init_a7421 2 none ∈ lw_all := lw_in (List.mem_of_getElem? (i := 627) (by decide +kernel)) (by decide +kernel)
theorem qm_String : Cond.instantiable "java/lang/String" 4 ∈ lw_all := lw_in (List.mem_of_getElem? (i := 643) (by decide +kernel)) (by decide +kernel)
theorem ql_L_66 : Cond.classLink RL 66 "java/lang/IllegalArgumentException" ∈ lw_all := lw_in (List.mem_of_getElem? (i := 648) (by decide +kernel)) (by decide +kernel)
theorem q_L_63 : Cond.methodLink RL 63 yX5_camelOf ∈ lw_all := lw_in (List.mem_of_getElem? (i := 649) (by decide +kernel)) (by decide +kernel)
theorem qi_X5_camelOf : Cond.instanceMethod yX5_camelOf ∈ lw_all := lw_in (List.mem_of_getElem? (i := 650) (by decide +kernel)) (by decide +kernel)
theorem qs_X5_camelOf : Cond.selects RX5 yX5_camelOf yX5_camelOf ∈ lw_all := lw_in (List.mem_of_getElem? (i := 651) (by decide +kernel)) (by decide +kernel)
theorem qc_X5_camelOf : Cond.code yX5_camelOf cX5_camelOf 3 (some .int) ∈ lw_all := lw_in (List.mem_of_getElem? (i := 652) (by decide +kernel)) (by decide +kernel)
theorem q_X5_134 : Cond.methodLink RX5 134 yX5_needCamel ∈ lw_all := lw_in (List.mem_of_getElem? (i := 653) (by decide +kernel)) (by decide +kernel)
theorem qi_X5_needCamel : Cond.instanceMethod yX5_needCamel ∈ lw_all := lw_in (List.mem_of_getElem? (i := 655) (by decide +kernel)) (by decide +kernel)
theorem qc_X5_needCamel : Cond.code yX5_needCamel cX5_needCamel 2 none ∈ lw_all := lw_in (List.mem_of_getElem? (i := 656) (by decide +kernel)) (by decide +kernel)
theorem ql_X5_291 : Cond.classLink RX5 291 "java/lang/IndexOutOfBoundsException" ∈ lw_all := lw_in (List.mem_of_getElem? (i := 657) (by decide +kernel)) (by decide +kernel)
theorem qm_IndexOutOfBoundsException : Cond.instantiable "java/lang/IndexOutOfBoundsException" 6 ∈ lw_all := lw_in (List.mem_of_getElem? (i := 658) (by decide +kernel)) (by decide +kernel)
theorem ql_X5_153 : Cond.classLink RX5 153 "java/lang/IllegalArgumentException" ∈ lw_all := lw_in (List.mem_of_getElem? (i := 670) (by decide +kernel)) (by decide +kernel)
theorem qm_IllegalArgumentException : Cond.instantiable "java/lang/IllegalArgumentException" 6 ∈ lw_all := lw_in (List.mem_of_getElem? (i := 671) (by decide +kernel)) (by decide +kernel)
theorem q_L_213 : Cond.methodLink RL 213 yL_seems ∈ lw_all := lw_in (List.mem_of_getElem? (i := 686) (by decide +kernel)) (by decide +kernel)
theorem qt_L_seems : Cond.static yL_seems ∈ lw_all := lw_in (List.mem_of_getElem? (i := 687) (by decide +kernel)) (by decide +kernel)
theorem qw_L_seems : Cond.codeWith yL_seems cL_seems 4 (some .int) [(0, 6, 7, 57)] ∈ lw_all := lw_in (List.mem_of_getElem? (i := 688) (by decide +kernel)) (by decide +kernel)
theorem q_L_76 : Cond.methodLink RL 76 yX5_seems ∈ lw_all := lw_in (List.mem_of_getElem? (i := 689) (by decide +kernel)) (by decide +kernel)
theorem qi_X5_seems : Cond.instanceMethod yX5_seems ∈ lw_all := lw_in (List.mem_of_getElem? (i := 690) (by decide +kernel)) (by decide +kernel)
theorem qs_X5_seems : Cond.selects RX5 yX5_seems yX5_seems ∈ lw_all := lw_in (List.mem_of_getElem? (i := 691) (by decide +kernel)) (by decide +kernel)
theorem qc_X5_seems : Cond.code yX5_seems cX5_seems 3 (some .int) ∈ lw_all := lw_in (List.mem_of_getElem? (i := 692) (by decide +kernel)) (by decide +kernel)
theorem q_X5_112 : Cond.methodLink RX5 112 yX5_needStake ∈ lw_all := lw_in (List.mem_of_getElem? (i := 693) (by decide +kernel)) (by decide +kernel)
theorem qi_X5_needStake : Cond.instanceMethod yX5_needStake ∈ lw_all := lw_in (List.mem_of_getElem? (i := 695) (by decide +kernel)) (by decide +kernel)
theorem qc_X5_needStake : Cond.code yX5_needStake cX5_needStake 2 none ∈ lw_all := lw_in (List.mem_of_getElem? (i := 696) (by decide +kernel)) (by decide +kernel)
theorem q_X5_125 : Cond.methodLink RX5 125 yX5_needPost ∈ lw_all := lw_in (List.mem_of_getElem? (i := 698) (by decide +kernel)) (by decide +kernel)
theorem qi_X5_needPost : Cond.instanceMethod yX5_needPost ∈ lw_all := lw_in (List.mem_of_getElem? (i := 700) (by decide +kernel)) (by decide +kernel)
theorem qc_X5_needPost : Cond.code yX5_needPost cX5_needPost 2 none ∈ lw_all := lw_in (List.mem_of_getElem? (i := 701) (by decide +kernel)) (by decide +kernel)
theorem q_L_217 : Cond.methodLink RL 217 yL_shimmers ∈ lw_all := lw_in (List.mem_of_getElem? (i := 703) (by decide +kernel)) (by decide +kernel)
theorem qt_L_shimmers : Cond.static yL_shimmers ∈ lw_all := lw_in (List.mem_of_getElem? (i := 704) (by decide +kernel)) (by decide +kernel)
theorem qw_L_shimmers : Cond.codeWith yL_shimmers cL_shimmers 4 (some .int) [(0, 14, 15, 57)] ∈ lw_all := lw_in (List.mem_of_getElem? (i := 705) (by decide +kernel)) (by decide +kernel)
theorem q_L_82 : Cond.methodLink RL 82 yX5_shimmers ∈ lw_all := lw_in (List.mem_of_getElem? (i := 706) (by decide +kernel)) (by decide +kernel)
theorem qi_X5_shimmers : Cond.instanceMethod yX5_shimmers ∈ lw_all := lw_in (List.mem_of_getElem? (i := 707) (by decide +kernel)) (by decide +kernel)
theorem qs_X5_shimmers : Cond.selects RX5 yX5_shimmers yX5_shimmers ∈ lw_all := lw_in (List.mem_of_getElem? (i := 708) (by decide +kernel)) (by decide +kernel)
theorem qc_X5_shimmers : Cond.code yX5_shimmers cX5_shimmers 3 (some .boolean) ∈ lw_all := lw_in (List.mem_of_getElem? (i := 709) (by decide +kernel)) (by decide +kernel)
theorem q_X5_188 : Cond.methodLink RX5 188 yX0_isShimmering ∈ lw_all := lw_in (List.mem_of_getElem? (i := 710) (by decide +kernel)) (by decide +kernel)
theorem qi_X0_isShimmering : Cond.instanceMethod yX0_isShimmering ∈ lw_all := lw_in (List.mem_of_getElem? (i := 711) (by decide +kernel)) (by decide +kernel)
theorem qs_X0_isShimmering : Cond.selects RX0 yX0_isShimmering yX0_isShimmering ∈ lw_all := lw_in (List.mem_of_getElem? (i := 712) (by decide +kernel)) (by decide +kernel)
theorem qc_X0_isShimmering : Cond.code yX0_isShimmering cX0_isShimmering 4 (some .boolean) ∈ lw_all := lw_in (List.mem_of_getElem? (i := 713) (by decide +kernel)) (by decide +kernel)
theorem q_L_209 : Cond.methodLink RL 209 yL_bestPost ∈ lw_all := lw_in (List.mem_of_getElem? (i := 714) (by decide +kernel)) (by decide +kernel)
theorem qt_L_bestPost : Cond.static yL_bestPost ∈ lw_all := lw_in (List.mem_of_getElem? (i := 715) (by decide +kernel)) (by decide +kernel)
theorem qw_L_bestPost : Cond.codeWith yL_bestPost cL_bestPost 3 (some .int) [(0, 5, 6, 57), (0, 5, 11, 71)] ∈ lw_all := lw_in (List.mem_of_getElem? (i := 716) (by decide +kernel)) (by decide +kernel)
theorem ql_L_71 : Cond.classLink RL 71 "java/util/NoSuchElementException" ∈ lw_all := lw_in (List.mem_of_getElem? (i := 717) (by decide +kernel)) (by decide +kernel)
theorem q_L_86 : Cond.methodLink RL 86 yX5_bestPost ∈ lw_all := lw_in (List.mem_of_getElem? (i := 718) (by decide +kernel)) (by decide +kernel)
theorem qi_X5_bestPost : Cond.instanceMethod yX5_bestPost ∈ lw_all := lw_in (List.mem_of_getElem? (i := 719) (by decide +kernel)) (by decide +kernel)
theorem qs_X5_bestPost : Cond.selects RX5 yX5_bestPost yX5_bestPost ∈ lw_all := lw_in (List.mem_of_getElem? (i := 720) (by decide +kernel)) (by decide +kernel)
theorem qc_X5_bestPost : Cond.code yX5_bestPost cX5_bestPost 3 (some .int) ∈ lw_all := lw_in (List.mem_of_getElem? (i := 721) (by decide +kernel)) (by decide +kernel)
theorem q_X5_192 : Cond.methodLink RX5 192 yX0_clearestPost ∈ lw_all := lw_in (List.mem_of_getElem? (i := 722) (by decide +kernel)) (by decide +kernel)
theorem qi_X0_clearestPost : Cond.instanceMethod yX0_clearestPost ∈ lw_all := lw_in (List.mem_of_getElem? (i := 723) (by decide +kernel)) (by decide +kernel)
theorem qs_X0_clearestPost : Cond.selects RX0 yX0_clearestPost yX0_clearestPost ∈ lw_all := lw_in (List.mem_of_getElem? (i := 724) (by decide +kernel)) (by decide +kernel)
theorem qc_X0_clearestPost : Cond.code yX0_clearestPost cX0_clearestPost 4 (some .int) ∈ lw_all := lw_in (List.mem_of_getElem? (i := 725) (by decide +kernel)) (by decide +kernel)
theorem q_X0_107 : Cond.methodLink RX0 107 yX0_isShimmering ∈ lw_all := lw_in (List.mem_of_getElem? (i := 726) (by decide +kernel)) (by decide +kernel)
theorem q_X0_110 : Cond.methodLink RX0 110 yX0_isBetterPost ∈ lw_all := lw_in (List.mem_of_getElem? (i := 727) (by decide +kernel)) (by decide +kernel)
theorem qi_X0_isBetterPost : Cond.instanceMethod yX0_isBetterPost ∈ lw_all := lw_in (List.mem_of_getElem? (i := 728) (by decide +kernel)) (by decide +kernel)
theorem qs_X0_isBetterPost : Cond.selects RX0 yX0_isBetterPost yX0_isBetterPost ∈ lw_all := lw_in (List.mem_of_getElem? (i := 729) (by decide +kernel)) (by decide +kernel)
theorem qc_X0_isBetterPost : Cond.code yX0_isBetterPost cX0_isBetterPost 6 (some .boolean) ∈ lw_all := lw_in (List.mem_of_getElem? (i := 730) (by decide +kernel)) (by decide +kernel)
theorem q_X0_113 : Cond.methodLink RX0 113 yX0_seemingPlace ∈ lw_all := lw_in (List.mem_of_getElem? (i := 731) (by decide +kernel)) (by decide +kernel)
theorem ql_X5_166 : Cond.classLink RX5 166 "java/util/NoSuchElementException" ∈ lw_all := lw_in (List.mem_of_getElem? (i := 732) (by decide +kernel)) (by decide +kernel)
theorem qm_NoSuchElementException : Cond.instantiable "java/util/NoSuchElementException" 6 ∈ lw_all := lw_in (List.mem_of_getElem? (i := 733) (by decide +kernel)) (by decide +kernel)
theorem q_L_226 : Cond.methodLink RL 226 yL_lostIn ∈ lw_all := lw_in (List.mem_of_getElem? (i := 748) (by decide +kernel)) (by decide +kernel)
theorem qt_L_lostIn : Cond.static yL_lostIn ∈ lw_all := lw_in (List.mem_of_getElem? (i := 749) (by decide +kernel)) (by decide +kernel)
theorem qw_L_lostIn : Cond.codeWith yL_lostIn cL_lostIn 3 (some .int) [(0, 5, 6, 57), (0, 5, 11, 71)] ∈ lw_all := lw_in (List.mem_of_getElem? (i := 750) (by decide +kernel)) (by decide +kernel)
theorem q_L_95 : Cond.methodLink RL 95 yX5_lostIn ∈ lw_all := lw_in (List.mem_of_getElem? (i := 751) (by decide +kernel)) (by decide +kernel)
theorem qi_X5_lostIn : Cond.instanceMethod yX5_lostIn ∈ lw_all := lw_in (List.mem_of_getElem? (i := 752) (by decide +kernel)) (by decide +kernel)
theorem qs_X5_lostIn : Cond.selects RX5 yX5_lostIn yX5_lostIn ∈ lw_all := lw_in (List.mem_of_getElem? (i := 753) (by decide +kernel)) (by decide +kernel)
theorem qc_X5_lostIn : Cond.code yX5_lostIn cX5_lostIn 3 (some .int) ∈ lw_all := lw_in (List.mem_of_getElem? (i := 754) (by decide +kernel)) (by decide +kernel)
theorem q_X5_210 : Cond.methodLink RX5 210 yX0_hoursUntilLost ∈ lw_all := lw_in (List.mem_of_getElem? (i := 755) (by decide +kernel)) (by decide +kernel)
theorem qi_X0_hoursUntilLost : Cond.instanceMethod yX0_hoursUntilLost ∈ lw_all := lw_in (List.mem_of_getElem? (i := 756) (by decide +kernel)) (by decide +kernel)
theorem qs_X0_hoursUntilLost : Cond.selects RX0 yX0_hoursUntilLost yX0_hoursUntilLost ∈ lw_all := lw_in (List.mem_of_getElem? (i := 757) (by decide +kernel)) (by decide +kernel)
theorem qc_X0_hoursUntilLost : Cond.code yX0_hoursUntilLost cX0_hoursUntilLost 4 (some .int) ∈ lw_all := lw_in (List.mem_of_getElem? (i := 758) (by decide +kernel)) (by decide +kernel)
theorem q_L_232 : Cond.methodLink RL 232 yL_nearest ∈ lw_all := lw_in (List.mem_of_getElem? (i := 760) (by decide +kernel)) (by decide +kernel)
theorem qt_L_nearest : Cond.static yL_nearest ∈ lw_all := lw_in (List.mem_of_getElem? (i := 761) (by decide +kernel)) (by decide +kernel)
theorem qw_L_nearest : Cond.codeWith yL_nearest cL_nearest 3 (some .int) [(0, 5, 6, 66), (0, 5, 11, 71)] ∈ lw_all := lw_in (List.mem_of_getElem? (i := 762) (by decide +kernel)) (by decide +kernel)
theorem q_L_98 : Cond.methodLink RL 98 yX5_nearest ∈ lw_all := lw_in (List.mem_of_getElem? (i := 763) (by decide +kernel)) (by decide +kernel)
theorem qi_X5_nearest : Cond.instanceMethod yX5_nearest ∈ lw_all := lw_in (List.mem_of_getElem? (i := 764) (by decide +kernel)) (by decide +kernel)
theorem qs_X5_nearest : Cond.selects RX5 yX5_nearest yX5_nearest ∈ lw_all := lw_in (List.mem_of_getElem? (i := 765) (by decide +kernel)) (by decide +kernel)
theorem qc_X5_nearest : Cond.code yX5_nearest cX5_nearest 3 (some .int) ∈ lw_all := lw_in (List.mem_of_getElem? (i := 766) (by decide +kernel)) (by decide +kernel)
theorem q_X5_220 : Cond.methodLink RX5 220 yX0_nearestCamel ∈ lw_all := lw_in (List.mem_of_getElem? (i := 768) (by decide +kernel)) (by decide +kernel)
end
section
/-! words, part 3 -/
theorem qi_X0_nearestCamel : Cond.instanceMethod yX0_nearestCamel ∈ lw_all := lw_in (List.mem_of_getElem? (i := 769) (by decide +kernel)) (by decide +kernel)
theorem qs_X0_nearestCamel : Cond.selects RX0 yX0_nearestCamel yX0_nearestCamel ∈ lw_all := lw_in (List.mem_of_getElem? (i := 770) (by decide +kernel)) (by decide +kernel)
theorem qc_X0_nearestCamel : Cond.code yX0_nearestCamel cX0_nearestCamel 4 (some .int) ∈ lw_all := lw_in (List.mem_of_getElem? (i := 771) (by decide +kernel)) (by decide +kernel)
theorem q_X0_132 : Cond.methodLink RX0 132 yX0_isNearer ∈ lw_all := lw_in (List.mem_of_getElem? (i := 772) (by decide +kernel)) (by decide +kernel)
theorem qi_X0_isNearer : Cond.instanceMethod yX0_isNearer ∈ lw_all := lw_in (List.mem_of_getElem? (i := 773) (by decide +kernel)) (by decide +kernel)
theorem qs_X0_isNearer : Cond.selects RX0 yX0_isNearer yX0_isNearer ∈ lw_all := lw_in (List.mem_of_getElem? (i := 774) (by decide +kernel)) (by decide +kernel)
theorem qc_X0_isNearer : Cond.code yX0_isNearer cX0_isNearer 6 (some .boolean) ∈ lw_all := lw_in (List.mem_of_getElem? (i := 775) (by decide +kernel)) (by decide +kernel)
theorem q_L_150 : Cond.methodLink RL 150 yL_append ∈ lw_all := lw_in (List.mem_of_getElem? (i := 777) (by decide +kernel)) (by decide +kernel)
theorem qt_L_append : Cond.static yL_append ∈ lw_all := lw_in (List.mem_of_getElem? (i := 778) (by decide +kernel)) (by decide +kernel)
theorem qw_L_append : Cond.codeWith yL_append cL_append 3 (some .int) [(0, 5, 6, 105)] ∈ lw_all := lw_in (List.mem_of_getElem? (i := 779) (by decide +kernel)) (by decide +kernel)
theorem ql_L_105 : Cond.classLink RL 105 "java/lang/IllegalStateException" ∈ lw_all := lw_in (List.mem_of_getElem? (i := 780) (by decide +kernel)) (by decide +kernel)
theorem q_L_101 : Cond.methodLink RL 101 yX5_append ∈ lw_all := lw_in (List.mem_of_getElem? (i := 781) (by decide +kernel)) (by decide +kernel)
theorem qi_X5_append : Cond.instanceMethod yX5_append ∈ lw_all := lw_in (List.mem_of_getElem? (i := 782) (by decide +kernel)) (by decide +kernel)
theorem qs_X5_append : Cond.selects RX5 yX5_append yX5_append ∈ lw_all := lw_in (List.mem_of_getElem? (i := 783) (by decide +kernel)) (by decide +kernel)
theorem qc_X5_append : Cond.code yX5_append cX5_append 2 (some .int) ∈ lw_all := lw_in (List.mem_of_getElem? (i := 784) (by decide +kernel)) (by decide +kernel)
theorem q_X5_225 : Cond.methodLink RX5 225 yX4_isFull ∈ lw_all := lw_in (List.mem_of_getElem? (i := 785) (by decide +kernel)) (by decide +kernel)
theorem qi_X4_isFull : Cond.instanceMethod yX4_isFull ∈ lw_all := lw_in (List.mem_of_getElem? (i := 786) (by decide +kernel)) (by decide +kernel)
theorem qs_X4_isFull : Cond.selects RX4 yX4_isFull yX4_isFull ∈ lw_all := lw_in (List.mem_of_getElem? (i := 787) (by decide +kernel)) (by decide +kernel)
theorem qc_X4_isFull : Cond.code yX4_isFull cX4_isFull 1 (some .boolean) ∈ lw_all := lw_in (List.mem_of_getElem? (i := 788) (by decide +kernel)) (by decide +kernel)
theorem ql_X5_229 : Cond.classLink RX5 229 "java/lang/IllegalStateException" ∈ lw_all := lw_in (List.mem_of_getElem? (i := 789) (by decide +kernel)) (by decide +kernel)
theorem qm_IllegalStateException : Cond.instantiable "java/lang/IllegalStateException" 6 ∈ lw_all := lw_in (List.mem_of_getElem? (i := 790) (by decide +kernel)) (by decide +kernel)
theorem q_X5_234 : Cond.methodLink RX5 234 yX4_put ∈ lw_all := lw_in (List.mem_of_getElem? (i := 805) (by decide +kernel)) (by decide +kernel)
theorem qi_X4_put : Cond.instanceMethod yX4_put ∈ lw_all := lw_in (List.mem_of_getElem? (i := 806) (by decide +kernel)) (by decide +kernel)
theorem qs_X4_put : Cond.selects RX4 yX4_put yX4_put ∈ lw_all := lw_in (List.mem_of_getElem? (i := 807) (by decide +kernel)) (by decide +kernel)
theorem qc_X4_put : Cond.code yX4_put cX4_put 2 (some .int) ∈ lw_all := lw_in (List.mem_of_getElem? (i := 808) (by decide +kernel)) (by decide +kernel)
theorem q_L_155 : Cond.methodLink RL 155 yL_commands ∈ lw_all := lw_in (List.mem_of_getElem? (i := 809) (by decide +kernel)) (by decide +kernel)
theorem qt_L_commands : Cond.static yL_commands ∈ lw_all := lw_in (List.mem_of_getElem? (i := 810) (by decide +kernel)) (by decide +kernel)
theorem qw_L_commands : Cond.codeWith yL_commands cL_commands 2 (some .int) [(0, 4, 5, 66), (0, 4, 10, 13)] ∈ lw_all := lw_in (List.mem_of_getElem? (i := 811) (by decide +kernel)) (by decide +kernel)
theorem q_L_107 : Cond.methodLink RL 107 yX5_commands ∈ lw_all := lw_in (List.mem_of_getElem? (i := 812) (by decide +kernel)) (by decide +kernel)
theorem qi_X5_commands : Cond.instanceMethod yX5_commands ∈ lw_all := lw_in (List.mem_of_getElem? (i := 813) (by decide +kernel)) (by decide +kernel)
theorem qs_X5_commands : Cond.selects RX5 yX5_commands yX5_commands ∈ lw_all := lw_in (List.mem_of_getElem? (i := 814) (by decide +kernel)) (by decide +kernel)
theorem qc_X5_commands : Cond.code yX5_commands cX5_commands 4 (some .int) ∈ lw_all := lw_in (List.mem_of_getElem? (i := 815) (by decide +kernel)) (by decide +kernel)
theorem q_X5_238 : Cond.methodLink RX5 238 yX4_countCommands ∈ lw_all := lw_in (List.mem_of_getElem? (i := 816) (by decide +kernel)) (by decide +kernel)
theorem qi_X4_countCommands : Cond.instanceMethod yX4_countCommands ∈ lw_all := lw_in (List.mem_of_getElem? (i := 817) (by decide +kernel)) (by decide +kernel)
theorem qs_X4_countCommands : Cond.selects RX4 yX4_countCommands yX4_countCommands ∈ lw_all := lw_in (List.mem_of_getElem? (i := 818) (by decide +kernel)) (by decide +kernel)
theorem qc_X4_countCommands : Cond.code yX4_countCommands cX4_countCommands 2 (some .int) ∈ lw_all := lw_in (List.mem_of_getElem? (i := 819) (by decide +kernel)) (by decide +kernel)
theorem q_X4_35 : Cond.methodLink RX4 35 yX4_rewind ∈ lw_all := lw_in (List.mem_of_getElem? (i := 820) (by decide +kernel)) (by decide +kernel)
theorem qi_X4_rewind : Cond.instanceMethod yX4_rewind ∈ lw_all := lw_in (List.mem_of_getElem? (i := 821) (by decide +kernel)) (by decide +kernel)
theorem qs_X4_rewind : Cond.selects RX4 yX4_rewind yX4_rewind ∈ lw_all := lw_in (List.mem_of_getElem? (i := 822) (by decide +kernel)) (by decide +kernel)
theorem qc_X4_rewind : Cond.code yX4_rewind cX4_rewind 1 none ∈ lw_all := lw_in (List.mem_of_getElem? (i := 823) (by decide +kernel)) (by decide +kernel)
theorem q_X4_38 : Cond.methodLink RX4 38 yX4_readCommand ∈ lw_all := lw_in (List.mem_of_getElem? (i := 824) (by decide +kernel)) (by decide +kernel)
theorem qi_X4_readCommand : Cond.instanceMethod yX4_readCommand ∈ lw_all := lw_in (List.mem_of_getElem? (i := 825) (by decide +kernel)) (by decide +kernel)
theorem qs_X4_readCommand : Cond.selects RX4 yX4_readCommand yX4_readCommand ∈ lw_all := lw_in (List.mem_of_getElem? (i := 826) (by decide +kernel)) (by decide +kernel)
theorem qc_X4_readCommand : Cond.code yX4_readCommand cX4_readCommand 3 (some .boolean) ∈ lw_all := lw_in (List.mem_of_getElem? (i := 827) (by decide +kernel)) (by decide +kernel)
theorem q_X4_46 : Cond.methodLink RX4 46 yX3_clear ∈ lw_all := lw_in (List.mem_of_getElem? (i := 828) (by decide +kernel)) (by decide +kernel)
theorem qi_X3_clear : Cond.instanceMethod yX3_clear ∈ lw_all := lw_in (List.mem_of_getElem? (i := 829) (by decide +kernel)) (by decide +kernel)
theorem qs_X3_clear : Cond.selects RX3 yX3_clear yX3_clear ∈ lw_all := lw_in (List.mem_of_getElem? (i := 830) (by decide +kernel)) (by decide +kernel)
theorem qc_X3_clear : Cond.code yX3_clear cX3_clear 1 none ∈ lw_all := lw_in (List.mem_of_getElem? (i := 831) (by decide +kernel)) (by decide +kernel)
theorem q_X4_49 : Cond.methodLink RX4 49 yX4_signHere ∈ lw_all := lw_in (List.mem_of_getElem? (i := 832) (by decide +kernel)) (by decide +kernel)
theorem qi_X4_signHere : Cond.instanceMethod yX4_signHere ∈ lw_all := lw_in (List.mem_of_getElem? (i := 834) (by decide +kernel)) (by decide +kernel)
theorem qc_X4_signHere : Cond.code yX4_signHere cX4_signHere 1 (some .char) ∈ lw_all := lw_in (List.mem_of_getElem? (i := 835) (by decide +kernel)) (by decide +kernel)
theorem q_X4_53 : Cond.methodLink RX4 53 yX4_formOf ∈ lw_all := lw_in (List.mem_of_getElem? (i := 836) (by decide +kernel)) (by decide +kernel)
theorem qt_X4_formOf : Cond.static yX4_formOf ∈ lw_all := lw_in (List.mem_of_getElem? (i := 837) (by decide +kernel)) (by decide +kernel)
theorem qc_X4_formOf : Cond.code yX4_formOf cX4_formOf 1 (some (.object "java/lang/String")) ∈ lw_all := lw_in (List.mem_of_getElem? (i := 838) (by decide +kernel)) (by decide +kernel)
theorem q_X4_57 : Cond.methodLink RX4 57 yJ0_length_8abf5 ∈ lw_all := lw_in (List.mem_of_getElem? (i := 847) (by decide +kernel)) (by decide +kernel)
theorem qi_J0_length_8abf5 : Cond.instanceMethod yJ0_length_8abf5 ∈ lw_all := lw_in (List.mem_of_getElem? (i := 848) (by decide +kernel)) (by decide +kernel)
theorem qs_J0_length_8abf5 : Cond.selects RJ0 yJ0_length_8abf5 yJ0_length_8abf5 ∈ lw_all := lw_in (List.mem_of_getElem? (i := 849) (by decide +kernel)) (by decide +kernel)
theorem qc_J0_length_8abf5 : Cond.code yJ0_length_8abf5 cJ0_length_8abf5 1 (some .int) ∈ lw_all := lw_in (List.mem_of_getElem? (i := 850) (by decide +kernel)) (by decide +kernel)
theorem q_J0_335 : Cond.methodLink RJ0 335 yJ0_coder_7d493 ∈ lw_all := lw_in (List.mem_of_getElem? (i := 851) (by decide +kernel)) (by decide +kernel)
theorem qi_J0_coder_7d493 : Cond.instanceMethod yJ0_coder_7d493 ∈ lw_all := lw_in (List.mem_of_getElem? (i := 852) (by decide +kernel)) (by decide +kernel)
theorem qs_J0_coder_7d493 : Cond.selects RJ0 yJ0_coder_7d493 yJ0_coder_7d493 ∈ lw_all := lw_in (List.mem_of_getElem? (i := 853) (by decide +kernel)) (by decide +kernel)
theorem qc_J0_coder_7d493 : Cond.code yJ0_coder_7d493 cJ0_coder_7d493 1 (some .byte) ∈ lw_all := lw_in (List.mem_of_getElem? (i := 854) (by decide +kernel)) (by decide +kernel)
theorem qf_J0_38 : Cond.fieldLink RJ0 38 "java/lang/String" "COMPACT_STRINGS" "Z" ∈ lw_all := lw_in (List.mem_of_getElem? (i := 855) (by decide +kernel)) (by decide +kernel)
theorem q_X4_62 : Cond.methodLink RX4 62 yJ0_charAt_5068e ∈ lw_all := lw_in (List.mem_of_getElem? (i := 857) (by decide +kernel)) (by decide +kernel)
theorem qi_J0_charAt_5068e : Cond.instanceMethod yJ0_charAt_5068e ∈ lw_all := lw_in (List.mem_of_getElem? (i := 858) (by decide +kernel)) (by decide +kernel)
theorem qs_J0_charAt_5068e : Cond.selects RJ0 yJ0_charAt_5068e yJ0_charAt_5068e ∈ lw_all := lw_in (List.mem_of_getElem? (i := 859) (by decide +kernel)) (by decide +kernel)
theorem qc_J0_charAt_5068e : Cond.code yJ0_charAt_5068e cJ0_charAt_5068e 2 (some .char) ∈ lw_all := lw_in (List.mem_of_getElem? (i := 860) (by decide +kernel)) (by decide +kernel)
theorem q_J0_492 : Cond.methodLink RJ0 492 yJ0_isLatin1_aae02 ∈ lw_all := lw_in (List.mem_of_getElem? (i := 861) (by decide +kernel)) (by decide +kernel)
theorem qi_J0_isLatin1_aae02 : Cond.instanceMethod yJ0_isLatin1_aae02 ∈ lw_all := lw_in (List.mem_of_getElem? (i := 862) (by decide +kernel)) (by decide +kernel)
theorem qs_J0_isLatin1_aae02 : Cond.selects RJ0 yJ0_isLatin1_aae02 yJ0_isLatin1_aae02 ∈ lw_all := lw_in (List.mem_of_getElem? (i := 863) (by decide +kernel)) (by decide +kernel)
theorem qc_J0_isLatin1_aae02 : Cond.code yJ0_isLatin1_aae02 cJ0_isLatin1_aae02 1 (some .boolean) ∈ lw_all := lw_in (List.mem_of_getElem? (i := 864) (by decide +kernel)) (by decide +kernel)
theorem q_J0_495 : Cond.methodLink RJ0 495 yJ1_charAt_3b067 ∈ lw_all := lw_in (List.mem_of_getElem? (i := 865) (by decide +kernel)) (by decide +kernel)
theorem qt_J1_charAt_3b067 : Cond.static yJ1_charAt_3b067 ∈ lw_all := lw_in (List.mem_of_getElem? (i := 866) (by decide +kernel)) (by decide +kernel)
theorem qc_J1_charAt_3b067 : Cond.code yJ1_charAt_3b067 cJ1_charAt_3b067 2 (some .char) ∈ lw_all := lw_in (List.mem_of_getElem? (i := 867) (by decide +kernel)) (by decide +kernel)
theorem q_J1_9 : Cond.methodLink RJ1 9 yJ0_checkIndex_df160 ∈ lw_all := lw_in (List.mem_of_getElem? (i := 868) (by decide +kernel)) (by decide +kernel)
theorem qt_J0_checkIndex_df160 : Cond.static yJ0_checkIndex_df160 ∈ lw_all := lw_in (List.mem_of_getElem? (i := 869) (by decide +kernel)) (by decide +kernel)
theorem qc_J0_checkIndex_df160 : Cond.code yJ0_checkIndex_df160 cJ0_checkIndex_df160 2 none ∈ lw_all := lw_in (List.mem_of_getElem? (i := 870) (by decide +kernel)) (by decide +kernel)
theorem qf_J0_1053 : Cond.fieldLink RJ0 1053 "jdk/internal/util/Preconditions" "SIOOBE_FORMATTER" "Ljava/util/function/BiFunction;" ∈ lw_all := lw_in (List.mem_of_getElem? (i := 871) (by decide +kernel)) (by decide +kernel)
theorem q_J0_1059 : Cond.methodLink RJ0 1059 yJ3_checkIndex_8e157 ∈ lw_all := lw_in (List.mem_of_getElem? (i := 873) (by decide +kernel)) (by decide +kernel)
theorem qt_J3_checkIndex_8e157 : Cond.static yJ3_checkIndex_8e157 ∈ lw_all := lw_in (List.mem_of_getElem? (i := 874) (by decide +kernel)) (by decide +kernel)
theorem qc_J3_checkIndex_8e157 : Cond.code yJ3_checkIndex_8e157 cJ3_checkIndex_8e157 3 (some .int) ∈ lw_all := lw_in (List.mem_of_getElem? (i := 875) (by decide +kernel)) (by decide +kernel)
theorem q_J0_498 : Cond.methodLink RJ0 498 yJ2_charAt_3b067 ∈ lw_all := lw_in (List.mem_of_getElem? (i := 876) (by decide +kernel)) (by decide +kernel)
theorem qt_J2_charAt_3b067 : Cond.static yJ2_charAt_3b067 ∈ lw_all := lw_in (List.mem_of_getElem? (i := 877) (by decide +kernel)) (by decide +kernel)
theorem qc_J2_charAt_3b067 : Cond.code yJ2_charAt_3b067 cJ2_charAt_3b067 2 (some .char) ∈ lw_all := lw_in (List.mem_of_getElem? (i := 878) (by decide +kernel)) (by decide +kernel)
theorem q_J2_67 : Cond.methodLink RJ2 67 yJ2_checkIndex_2214a ∈ lw_all := lw_in (List.mem_of_getElem? (i := 879) (by decide +kernel)) (by decide +kernel)
theorem qt_J2_checkIndex_2214a : Cond.static yJ2_checkIndex_2214a ∈ lw_all := lw_in (List.mem_of_getElem? (i := 880) (by decide +kernel)) (by decide +kernel)
theorem qc_J2_checkIndex_2214a : Cond.code yJ2_checkIndex_2214a cJ2_checkIndex_2214a 2 none ∈ lw_all := lw_in (List.mem_of_getElem? (i := 881) (by decide +kernel)) (by decide +kernel)
theorem q_J2_48 : Cond.methodLink RJ2 48 yJ2_length_9d52b ∈ lw_all := lw_in (List.mem_of_getElem? (i := 882) (by decide +kernel)) (by decide +kernel)
theorem qt_J2_length_9d52b : Cond.static yJ2_length_9d52b ∈ lw_all := lw_in (List.mem_of_getElem? (i := 883) (by decide +kernel)) (by decide +kernel)
theorem qc_J2_length_9d52b : Cond.code yJ2_length_9d52b cJ2_length_9d52b 1 (some .int) ∈ lw_all := lw_in (List.mem_of_getElem? (i := 884) (by decide +kernel)) (by decide +kernel)
theorem q_J2_414 : Cond.methodLink RJ2 414 yJ0_checkIndex_df160 ∈ lw_all := lw_in (List.mem_of_getElem? (i := 885) (by decide +kernel)) (by decide +kernel)
theorem q_J2_71 : Cond.methodLink RJ2 71 yJ2_getChar_3b067 ∈ lw_all := lw_in (List.mem_of_getElem? (i := 886) (by decide +kernel)) (by decide +kernel)
theorem qt_J2_getChar_3b067 : Cond.static yJ2_getChar_3b067 ∈ lw_all := lw_in (List.mem_of_getElem? (i := 887) (by decide +kernel)) (by decide +kernel)
theorem qc_J2_getChar_3b067 : Cond.code yJ2_getChar_3b067 cJ2_getChar_3b067 2 (some .char) ∈ lw_all := lw_in (List.mem_of_getElem? (i := 888) (by decide +kernel)) (by decide +kernel)
theorem qf_J2_44 : Cond.fieldLink RJ2 44 "java/lang/StringUTF16" "$assertionsDisabled" "Z" ∈ lw_all := lw_in (List.mem_of_getElem? (i := 889) (by decide +kernel)) (by decide +kernel)
theorem qf_J2_59 : Cond.fieldLink RJ2 59 "java/lang/StringUTF16" "HI_BYTE_SHIFT" "I" ∈ lw_all := lw_in (List.mem_of_getElem? (i := 891) (by decide +kernel)) (by decide +kernel)
theorem qf_J2_63 : Cond.fieldLink RJ2 63 "java/lang/StringUTF16" "LO_BYTE_SHIFT" "I" ∈ lw_all := lw_in (List.mem_of_getElem? (i := 893) (by decide +kernel)) (by decide +kernel)
theorem q_X4_66 : Cond.methodLink RX4 66 yX4_readPart ∈ lw_all := lw_in (List.mem_of_getElem? (i := 895) (by decide +kernel)) (by decide +kernel)
theorem qi_X4_readPart : Cond.instanceMethod yX4_readPart ∈ lw_all := lw_in (List.mem_of_getElem? (i := 897) (by decide +kernel)) (by decide +kernel)
theorem qc_X4_readPart : Cond.code yX4_readPart cX4_readPart 2 (some .boolean) ∈ lw_all := lw_in (List.mem_of_getElem? (i := 898) (by decide +kernel)) (by decide +kernel)
theorem q_X4_88 : Cond.methodLink RX4 88 yX4_readNumber ∈ lw_all := lw_in (List.mem_of_getElem? (i := 899) (by decide +kernel)) (by decide +kernel)
theorem qi_X4_readNumber : Cond.instanceMethod yX4_readNumber ∈ lw_all := lw_in (List.mem_of_getElem? (i := 901) (by decide +kernel)) (by decide +kernel)
theorem qc_X4_readNumber : Cond.code yX4_readNumber cX4_readNumber 4 (some .boolean) ∈ lw_all := lw_in (List.mem_of_getElem? (i := 902) (by decide +kernel)) (by decide +kernel)
theorem q_X4_92 : Cond.methodLink RX4 92 yX4_readDigit ∈ lw_all := lw_in (List.mem_of_getElem? (i := 903) (by decide +kernel)) (by decide +kernel)
theorem qi_X4_readDigit : Cond.instanceMethod yX4_readDigit ∈ lw_all := lw_in (List.mem_of_getElem? (i := 905) (by decide +kernel)) (by decide +kernel)
theorem qc_X4_readDigit : Cond.code yX4_readDigit cX4_readDigit 2 (some .int) ∈ lw_all := lw_in (List.mem_of_getElem? (i := 906) (by decide +kernel)) (by decide +kernel)
theorem q_X4_95 : Cond.methodLink RX4 95 yX3_add ∈ lw_all := lw_in (List.mem_of_getElem? (i := 907) (by decide +kernel)) (by decide +kernel)
theorem q_X4_42 : Cond.methodLink RX4 42 yX4_readSign ∈ lw_all := lw_in (List.mem_of_getElem? (i := 908) (by decide +kernel)) (by decide +kernel)
theorem qi_X4_readSign : Cond.instanceMethod yX4_readSign ∈ lw_all := lw_in (List.mem_of_getElem? (i := 909) (by decide +kernel)) (by decide +kernel)
theorem qs_X4_readSign : Cond.selects RX4 yX4_readSign yX4_readSign ∈ lw_all := lw_in (List.mem_of_getElem? (i := 910) (by decide +kernel)) (by decide +kernel)
theorem qc_X4_readSign : Cond.code yX4_readSign cX4_readSign 2 (some .boolean) ∈ lw_all := lw_in (List.mem_of_getElem? (i := 911) (by decide +kernel)) (by decide +kernel)
theorem q_X4_69 : Cond.methodLink RX4 69 yJ0_isEmpty_aae02 ∈ lw_all := lw_in (List.mem_of_getElem? (i := 912) (by decide +kernel)) (by decide +kernel)
theorem qi_J0_isEmpty_aae02 : Cond.instanceMethod yJ0_isEmpty_aae02 ∈ lw_all := lw_in (List.mem_of_getElem? (i := 913) (by decide +kernel)) (by decide +kernel)
theorem qs_J0_isEmpty_aae02 : Cond.selects RJ0 yJ0_isEmpty_aae02 yJ0_isEmpty_aae02 ∈ lw_all := lw_in (List.mem_of_getElem? (i := 914) (by decide +kernel)) (by decide +kernel)
theorem qc_J0_isEmpty_aae02 : Cond.code yJ0_isEmpty_aae02 cJ0_isEmpty_aae02 1 (some .boolean) ∈ lw_all := lw_in (List.mem_of_getElem? (i := 915) (by decide +kernel)) (by decide +kernel)
theorem q_X5_241 : Cond.methodLink RX5 241 yX4_position ∈ lw_all := lw_in (List.mem_of_getElem? (i := 916) (by decide +kernel)) (by decide +kernel)
theorem qi_X4_position : Cond.instanceMethod yX4_position ∈ lw_all := lw_in (List.mem_of_getElem? (i := 917) (by decide +kernel)) (by decide +kernel)
theorem qs_X4_position : Cond.selects RX4 yX4_position yX4_position ∈ lw_all := lw_in (List.mem_of_getElem? (i := 918) (by decide +kernel)) (by decide +kernel)
theorem qc_X4_position : Cond.code yX4_position cX4_position 1 (some .int) ∈ lw_all := lw_in (List.mem_of_getElem? (i := 919) (by decide +kernel)) (by decide +kernel)
theorem q_X5_244 : Cond.methodLink RX5 244 yX4_clear ∈ lw_all := lw_in (List.mem_of_getElem? (i := 920) (by decide +kernel)) (by decide +kernel)
theorem qi_X4_clear : Cond.instanceMethod yX4_clear ∈ lw_all := lw_in (List.mem_of_getElem? (i := 921) (by decide +kernel)) (by decide +kernel)
theorem qs_X4_clear : Cond.selects RX4 yX4_clear yX4_clear ∈ lw_all := lw_in (List.mem_of_getElem? (i := 922) (by decide +kernel)) (by decide +kernel)
theorem qc_X4_clear : Cond.code yX4_clear cX4_clear 1 none ∈ lw_all := lw_in (List.mem_of_getElem? (i := 923) (by decide +kernel)) (by decide +kernel)
theorem q_X5_249 : Cond.methodLink RX5 249 yX4_rewind ∈ lw_all := lw_in (List.mem_of_getElem? (i := 925) (by decide +kernel)) (by decide +kernel)
theorem q_X5_252 : Cond.methodLink RX5 252 yX4_readCommand ∈ lw_all := lw_in (List.mem_of_getElem? (i := 926) (by decide +kernel)) (by decide +kernel)
theorem q_X5_255 : Cond.methodLink RX5 255 yX4_kind ∈ lw_all := lw_in (List.mem_of_getElem? (i := 927) (by decide +kernel)) (by decide +kernel)
theorem qi_X4_kind : Cond.instanceMethod yX4_kind ∈ lw_all := lw_in (List.mem_of_getElem? (i := 928) (by decide +kernel)) (by decide +kernel)
theorem qs_X4_kind : Cond.selects RX4 yX4_kind yX4_kind ∈ lw_all := lw_in (List.mem_of_getElem? (i := 929) (by decide +kernel)) (by decide +kernel)
theorem qc_X4_kind : Cond.code yX4_kind cX4_kind 1 (some .char) ∈ lw_all := lw_in (List.mem_of_getElem? (i := 930) (by decide +kernel)) (by decide +kernel)
theorem q_X5_262 : Cond.methodLink RX5 262 yX5_carryOut ∈ lw_all := lw_in (List.mem_of_getElem? (i := 931) (by decide +kernel)) (by decide +kernel)
theorem qi_X5_carryOut : Cond.instanceMethod yX5_carryOut ∈ lw_all := lw_in (List.mem_of_getElem? (i := 933) (by decide +kernel)) (by decide +kernel)
theorem qc_X5_carryOut : Cond.code yX5_carryOut cX5_carryOut 4 (some .int) ∈ lw_all := lw_in (List.mem_of_getElem? (i := 934) (by decide +kernel)) (by decide +kernel)
theorem q_X5_88 : Cond.methodLink RX5 88 yX5_eraseDrawn ∈ lw_all := lw_in (List.mem_of_getElem? (i := 935) (by decide +kernel)) (by decide +kernel)
theorem qi_X5_eraseDrawn : Cond.instanceMethod yX5_eraseDrawn ∈ lw_all := lw_in (List.mem_of_getElem? (i := 937) (by decide +kernel)) (by decide +kernel)
theorem qc_X5_eraseDrawn : Cond.code yX5_eraseDrawn cX5_eraseDrawn 4 (some .int) ∈ lw_all := lw_in (List.mem_of_getElem? (i := 938) (by decide +kernel)) (by decide +kernel)
theorem q_X5_163 : Cond.methodLink RX5 163 yX0_drawnPlace ∈ lw_all := lw_in (List.mem_of_getElem? (i := 939) (by decide +kernel)) (by decide +kernel)
theorem qi_X0_drawnPlace : Cond.instanceMethod yX0_drawnPlace ∈ lw_all := lw_in (List.mem_of_getElem? (i := 940) (by decide +kernel)) (by decide +kernel)
theorem qs_X0_drawnPlace : Cond.selects RX0 yX0_drawnPlace yX0_drawnPlace ∈ lw_all := lw_in (List.mem_of_getElem? (i := 941) (by decide +kernel)) (by decide +kernel)
theorem qc_X0_drawnPlace : Cond.code yX0_drawnPlace cX0_drawnPlace 3 (some .int) ∈ lw_all := lw_in (List.mem_of_getElem? (i := 942) (by decide +kernel)) (by decide +kernel)
theorem q_X5_266 : Cond.methodLink RX5 266 yX4_readSign ∈ lw_all := lw_in (List.mem_of_getElem? (i := 943) (by decide +kernel)) (by decide +kernel)
theorem q_L_158 : Cond.methodLink RL 158 yL_reason ∈ lw_all := lw_in (List.mem_of_getElem? (i := 944) (by decide +kernel)) (by decide +kernel)
theorem qt_L_reason : Cond.static yL_reason ∈ lw_all := lw_in (List.mem_of_getElem? (i := 945) (by decide +kernel)) (by decide +kernel)
theorem qw_L_reason : Cond.codeWith yL_reason cL_reason 3 (some .int) [(0, 5, 6, 66), (0, 5, 11, 71)] ∈ lw_all := lw_in (List.mem_of_getElem? (i := 946) (by decide +kernel)) (by decide +kernel)
theorem q_L_110 : Cond.methodLink RL 110 yX5_reason ∈ lw_all := lw_in (List.mem_of_getElem? (i := 947) (by decide +kernel)) (by decide +kernel)
theorem qi_X5_reason : Cond.instanceMethod yX5_reason ∈ lw_all := lw_in (List.mem_of_getElem? (i := 948) (by decide +kernel)) (by decide +kernel)
theorem qs_X5_reason : Cond.selects RX5 yX5_reason yX5_reason ∈ lw_all := lw_in (List.mem_of_getElem? (i := 949) (by decide +kernel)) (by decide +kernel)
theorem qc_X5_reason : Cond.code yX5_reason cX5_reason 2 (some .int) ∈ lw_all := lw_in (List.mem_of_getElem? (i := 950) (by decide +kernel)) (by decide +kernel)
theorem q_L_205 : Cond.methodLink RL 205 yL_account ∈ lw_all := lw_in (List.mem_of_getElem? (i := 953) (by decide +kernel)) (by decide +kernel)
theorem qt_L_account : Cond.static yL_account ∈ lw_all := lw_in (List.mem_of_getElem? (i := 954) (by decide +kernel)) (by decide +kernel)
theorem qw_L_account : Cond.codeWith yL_account cL_account 3 (some .int) [(0, 5, 6, 66)] ∈ lw_all := lw_in (List.mem_of_getElem? (i := 955) (by decide +kernel)) (by decide +kernel)
theorem q_L_133 : Cond.methodLink RL 133 yX5_account ∈ lw_all := lw_in (List.mem_of_getElem? (i := 956) (by decide +kernel)) (by decide +kernel)
theorem qi_X5_account : Cond.instanceMethod yX5_account ∈ lw_all := lw_in (List.mem_of_getElem? (i := 957) (by decide +kernel)) (by decide +kernel)
theorem qs_X5_account : Cond.selects RX5 yX5_account yX5_account ∈ lw_all := lw_in (List.mem_of_getElem? (i := 958) (by decide +kernel)) (by decide +kernel)
theorem qc_X5_account : Cond.code yX5_account cX5_account 2 (some .int) ∈ lw_all := lw_in (List.mem_of_getElem? (i := 959) (by decide +kernel)) (by decide +kernel)
theorem q_X5_306 : Cond.methodLink RX5 306 yX0_countDrawn ∈ lw_all := lw_in (List.mem_of_getElem? (i := 960) (by decide +kernel)) (by decide +kernel)
theorem qi_X0_countDrawn : Cond.instanceMethod yX0_countDrawn ∈ lw_all := lw_in (List.mem_of_getElem? (i := 961) (by decide +kernel)) (by decide +kernel)
theorem qs_X0_countDrawn : Cond.selects RX0 yX0_countDrawn yX0_countDrawn ∈ lw_all := lw_in (List.mem_of_getElem? (i := 962) (by decide +kernel)) (by decide +kernel)
theorem qc_X0_countDrawn : Cond.code yX0_countDrawn cX0_countDrawn 6 (some .int) ∈ lw_all := lw_in (List.mem_of_getElem? (i := 963) (by decide +kernel)) (by decide +kernel)
theorem q_X5_324 : Cond.methodLink RX5 324 yX0_bellReach ∈ lw_all := lw_in (List.mem_of_getElem? (i := 964) (by decide +kernel)) (by decide +kernel)
theorem q_X5_330 : Cond.methodLink RX5 330 yX1_size ∈ lw_all := lw_in (List.mem_of_getElem? (i := 965) (by decide +kernel)) (by decide +kernel)
theorem qi_X1_size : Cond.instanceMethod yX1_size ∈ lw_all := lw_in (List.mem_of_getElem? (i := 966) (by decide +kernel)) (by decide +kernel)
theorem qs_X1_size : Cond.selects RX1 yX1_size yX1_size ∈ lw_all := lw_in (List.mem_of_getElem? (i := 967) (by decide +kernel)) (by decide +kernel)
theorem qc_X1_size : Cond.code yX1_size cX1_size 1 (some .int) ∈ lw_all := lw_in (List.mem_of_getElem? (i := 968) (by decide +kernel)) (by decide +kernel)
theorem q_X5_331 : Cond.methodLink RX5 331 yX4_length ∈ lw_all := lw_in (List.mem_of_getElem? (i := 969) (by decide +kernel)) (by decide +kernel)
theorem qi_X4_length : Cond.instanceMethod yX4_length ∈ lw_all := lw_in (List.mem_of_getElem? (i := 970) (by decide +kernel)) (by decide +kernel)
theorem qs_X4_length : Cond.selects RX4 yX4_length yX4_length ∈ lw_all := lw_in (List.mem_of_getElem? (i := 971) (by decide +kernel)) (by decide +kernel)
theorem qc_X4_length : Cond.code yX4_length cX4_length 1 (some .int) ∈ lw_all := lw_in (List.mem_of_getElem? (i := 972) (by decide +kernel)) (by decide +kernel)
theorem q_L_294 : Cond.methodLink RL 294 yL_undo ∈ lw_all := lw_in (List.mem_of_getElem? (i := 974) (by decide +kernel)) (by decide +kernel)
theorem qt_L_undo : Cond.static yL_undo ∈ lw_all := lw_in (List.mem_of_getElem? (i := 975) (by decide +kernel)) (by decide +kernel)
theorem qw_L_undo : Cond.codeWith yL_undo cL_undo 2 (some .int) [(0, 4, 5, 105)] ∈ lw_all := lw_in (List.mem_of_getElem? (i := 976) (by decide +kernel)) (by decide +kernel)
theorem q_L_136 : Cond.methodLink RL 136 yX5_undo ∈ lw_all := lw_in (List.mem_of_getElem? (i := 977) (by decide +kernel)) (by decide +kernel)
theorem qi_X5_undo : Cond.instanceMethod yX5_undo ∈ lw_all := lw_in (List.mem_of_getElem? (i := 978) (by decide +kernel)) (by decide +kernel)
theorem qs_X5_undo : Cond.selects RX5 yX5_undo yX5_undo ∈ lw_all := lw_in (List.mem_of_getElem? (i := 979) (by decide +kernel)) (by decide +kernel)
theorem qc_X5_undo : Cond.code yX5_undo cX5_undo 1 (some .int) ∈ lw_all := lw_in (List.mem_of_getElem? (i := 980) (by decide +kernel)) (by decide +kernel)
theorem q_X5_336 : Cond.methodLink RX5 336 yX1_takeBack ∈ lw_all := lw_in (List.mem_of_getElem? (i := 982) (by decide +kernel)) (by decide +kernel)
theorem qi_X1_takeBack : Cond.instanceMethod yX1_takeBack ∈ lw_all := lw_in (List.mem_of_getElem? (i := 983) (by decide +kernel)) (by decide +kernel)
theorem qs_X1_takeBack : Cond.selects RX1 yX1_takeBack yX1_takeBack ∈ lw_all := lw_in (List.mem_of_getElem? (i := 984) (by decide +kernel)) (by decide +kernel)
theorem qc_X1_takeBack : Cond.code yX1_takeBack cX1_takeBack 3 none ∈ lw_all := lw_in (List.mem_of_getElem? (i := 985) (by decide +kernel)) (by decide +kernel)
theorem q_X1_39 : Cond.methodLink RX1 39 Lib.Math.max.name ∈ lw_all := lw_in (List.mem_of_getElem? (i := 986) (by decide +kernel)) (by decide +kernel)
theorem q_L_296 : Cond.methodLink RL 296 yL_restore ∈ lw_all := lw_in (List.mem_of_getElem? (i := 987) (by decide +kernel)) (by decide +kernel)
theorem qt_L_restore : Cond.static yL_restore ∈ lw_all := lw_in (List.mem_of_getElem? (i := 988) (by decide +kernel)) (by decide +kernel)
theorem qw_L_restore : Cond.codeWith yL_restore cL_restore 2 (some .int) [(0, 4, 5, 105)] ∈ lw_all := lw_in (List.mem_of_getElem? (i := 989) (by decide +kernel)) (by decide +kernel)
theorem q_L_139 : Cond.methodLink RL 139 yX5_restore ∈ lw_all := lw_in (List.mem_of_getElem? (i := 990) (by decide +kernel)) (by decide +kernel)
theorem qi_X5_restore : Cond.instanceMethod yX5_restore ∈ lw_all := lw_in (List.mem_of_getElem? (i := 991) (by decide +kernel)) (by decide +kernel)
theorem qs_X5_restore : Cond.selects RX5 yX5_restore yX5_restore ∈ lw_all := lw_in (List.mem_of_getElem? (i := 992) (by decide +kernel)) (by decide +kernel)
theorem qc_X5_restore : Cond.code yX5_restore cX5_restore 1 (some .int) ∈ lw_all := lw_in (List.mem_of_getElem? (i := 993) (by decide +kernel)) (by decide +kernel)
theorem q_X5_341 : Cond.methodLink RX5 341 yX1_forget ∈ lw_all := lw_in (List.mem_of_getElem? (i := 995) (by decide +kernel)) (by decide +kernel)
theorem qi_X1_forget : Cond.instanceMethod yX1_forget ∈ lw_all := lw_in (List.mem_of_getElem? (i := 996) (by decide +kernel)) (by decide +kernel)
theorem qs_X1_forget : Cond.selects RX1 yX1_forget yX1_forget ∈ lw_all := lw_in (List.mem_of_getElem? (i := 997) (by decide +kernel)) (by decide +kernel)
theorem qc_X1_forget : Cond.code yX1_forget cX1_forget 1 none ∈ lw_all := lw_in (List.mem_of_getElem? (i := 998) (by decide +kernel)) (by decide +kernel)
theorem q_L_282 : Cond.methodLink RL 282 yL_is ∈ lw_all := lw_in (List.mem_of_getElem? (i := 999) (by decide +kernel)) (by decide +kernel)
theorem qt_L_is : Cond.static yL_is ∈ lw_all := lw_in (List.mem_of_getElem? (i := 1000) (by decide +kernel)) (by decide +kernel)
theorem qc_L_is : Cond.code yL_is cL_is 4 (some .boolean) ∈ lw_all := lw_in (List.mem_of_getElem? (i := 1001) (by decide +kernel)) (by decide +kernel)
theorem q_L_301 : Cond.methodLink RL 301 yL_makes ∈ lw_all := lw_in (List.mem_of_getElem? (i := 1002) (by decide +kernel)) (by decide +kernel)
theorem qt_L_makes : Cond.static yL_makes ∈ lw_all := lw_in (List.mem_of_getElem? (i := 1003) (by decide +kernel)) (by decide +kernel)
set_option maxRecDepth 100000 in
theorem qc_L_makes : Cond.code yL_makes cL_makes 3 (some .boolean) ∈ lw_all := lw_in (List.mem_append_right _ (List.mem_append_right _ (List.mem_append_right _ (List.mem_append_right _ (List.mem_append_right _ (List.mem_append_left _ (List.mem_of_getElem? (i := 15) rfl))))))) (by decide +kernel)
theorem q_L_278 : Cond.methodLink RL 278 yL_asks ∈ lw_all := lw_in (List.mem_of_getElem? (i := 1005) (by decide +kernel)) (by decide +kernel)
theorem qt_L_asks : Cond.static yL_asks ∈ lw_all := lw_in (List.mem_of_getElem? (i := 1006) (by decide +kernel)) (by decide +kernel)
set_option maxRecDepth 100000 in
theorem qc_L_asks : Cond.code yL_asks cL_asks 6 (some .long) ∈ lw_all := lw_in (List.mem_append_right _ (List.mem_append_right _ (List.mem_append_right _ (List.mem_append_right _ (List.mem_append_right _ (List.mem_append_left _ (List.mem_of_getElem? (i := 18) rfl))))))) (by decide +kernel)
theorem q_L_187 : Cond.methodLink RL 187 yL_rightShare ∈ lw_all := lw_in (List.mem_of_getElem? (i := 1009) (by decide +kernel)) (by decide +kernel)
theorem qt_L_rightShare : Cond.static yL_rightShare ∈ lw_all := lw_in (List.mem_of_getElem? (i := 1010) (by decide +kernel)) (by decide +kernel)
theorem qw_L_rightShare : Cond.codeWith yL_rightShare cL_rightShare 2 (some .double) [(0, 4, 5, 124)] ∈ lw_all := lw_in (List.mem_of_getElem? (i := 1011) (by decide +kernel)) (by decide +kernel)
theorem ql_L_124 : Cond.classLink RL 124 "java/lang/ArithmeticException" ∈ lw_all := lw_in (List.mem_of_getElem? (i := 1012) (by decide +kernel)) (by decide +kernel)
theorem qm_ArithmeticException : Cond.instantiable "java/lang/ArithmeticException" 6 ∈ lw_all := lw_in (List.mem_of_getElem? (i := 1013) (by decide +kernel)) (by decide +kernel)
theorem q_L_127 : Cond.methodLink RL 127 yX5_rightShare ∈ lw_all := lw_in (List.mem_of_getElem? (i := 1026) (by decide +kernel)) (by decide +kernel)
theorem qi_X5_rightShare : Cond.instanceMethod yX5_rightShare ∈ lw_all := lw_in (List.mem_of_getElem? (i := 1027) (by decide +kernel)) (by decide +kernel)
theorem qs_X5_rightShare : Cond.selects RX5 yX5_rightShare yX5_rightShare ∈ lw_all := lw_in (List.mem_of_getElem? (i := 1028) (by decide +kernel)) (by decide +kernel)
theorem qc_X5_rightShare : Cond.code yX5_rightShare cX5_rightShare 2 (some .double) ∈ lw_all := lw_in (List.mem_of_getElem? (i := 1029) (by decide +kernel)) (by decide +kernel)
theorem ql_X5_300 : Cond.classLink RX5 300 "java/lang/ArithmeticException" ∈ lw_all := lw_in (List.mem_of_getElem? (i := 1030) (by decide +kernel)) (by decide +kernel)
theorem q_L_190 : Cond.methodLink RL 190 yJxe99ae_doubleToLongBits_ccdee ∈ lw_all := lw_in (List.mem_of_getElem? (i := 1034) (by decide +kernel)) (by decide +kernel)
theorem qt_Jxe99ae_doubleToLongBits_ccdee : Cond.static yJxe99ae_doubleToLongBits_ccdee ∈ lw_all := lw_in (List.mem_of_getElem? (i := 1035) (by decide +kernel)) (by decide +kernel)
theorem qc_Jxe99ae_doubleToLongBits_ccdee : Cond.code yJxe99ae_doubleToLongBits_ccdee cJxe99ae_doubleToLongBits_ccdee 2 (some .long) ∈ lw_all := lw_in (List.mem_of_getElem? (i := 1036) (by decide +kernel)) (by decide +kernel)
theorem q_Jxe99ae_122 : Cond.methodLink RJxe99ae 122 yJxe99ae_isNaN_b9ae7 ∈ lw_all := lw_in (List.mem_of_getElem? (i := 1037) (by decide +kernel)) (by decide +kernel)
theorem qt_Jxe99ae_isNaN_b9ae7 : Cond.static yJxe99ae_isNaN_b9ae7 ∈ lw_all := lw_in (List.mem_of_getElem? (i := 1038) (by decide +kernel)) (by decide +kernel)
theorem qc_Jxe99ae_isNaN_b9ae7 : Cond.code yJxe99ae_isNaN_b9ae7 cJxe99ae_isNaN_b9ae7 2 (some .boolean) ∈ lw_all := lw_in (List.mem_of_getElem? (i := 1039) (by decide +kernel)) (by decide +kernel)
theorem q_L_196 : Cond.methodLink RL 196 yL_meanThirst ∈ lw_all := lw_in (List.mem_of_getElem? (i := 1044) (by decide +kernel)) (by decide +kernel)
theorem qt_L_meanThirst : Cond.static yL_meanThirst ∈ lw_all := lw_in (List.mem_of_getElem? (i := 1045) (by decide +kernel)) (by decide +kernel)
theorem qw_L_meanThirst : Cond.codeWith yL_meanThirst cL_meanThirst 2 (some .float) [(0, 4, 5, 124)] ∈ lw_all := lw_in (List.mem_of_getElem? (i := 1046) (by decide +kernel)) (by decide +kernel)
theorem q_L_120 : Cond.methodLink RL 120 yX5_meanThirst ∈ lw_all := lw_in (List.mem_of_getElem? (i := 1047) (by decide +kernel)) (by decide +kernel)
theorem qi_X5_meanThirst : Cond.instanceMethod yX5_meanThirst ∈ lw_all := lw_in (List.mem_of_getElem? (i := 1048) (by decide +kernel)) (by decide +kernel)
theorem qs_X5_meanThirst : Cond.selects RX5 yX5_meanThirst yX5_meanThirst ∈ lw_all := lw_in (List.mem_of_getElem? (i := 1049) (by decide +kernel)) (by decide +kernel)
theorem qc_X5_meanThirst : Cond.code yX5_meanThirst cX5_meanThirst 2 (some .float) ∈ lw_all := lw_in (List.mem_of_getElem? (i := 1050) (by decide +kernel)) (by decide +kernel)
theorem q_L_199 : Cond.methodLink RL 199 yJxf58ca_floatToIntBits_5c35a ∈ lw_all := lw_in (List.mem_of_getElem? (i := 1052) (by decide +kernel)) (by decide +kernel)
theorem qt_Jxf58ca_floatToIntBits_5c35a : Cond.static yJxf58ca_floatToIntBits_5c35a ∈ lw_all := lw_in (List.mem_of_getElem? (i := 1053) (by decide +kernel)) (by decide +kernel)
theorem qc_Jxf58ca_floatToIntBits_5c35a : Cond.code yJxf58ca_floatToIntBits_5c35a cJxf58ca_floatToIntBits_5c35a 1 (some .int) ∈ lw_all := lw_in (List.mem_of_getElem? (i := 1054) (by decide +kernel)) (by decide +kernel)
theorem q_Jxf58ca_59 : Cond.methodLink RJxf58ca 59 yJxf58ca_isNaN_12338 ∈ lw_all := lw_in (List.mem_of_getElem? (i := 1055) (by decide +kernel)) (by decide +kernel)
theorem qt_Jxf58ca_isNaN_12338 : Cond.static yJxf58ca_isNaN_12338 ∈ lw_all := lw_in (List.mem_of_getElem? (i := 1056) (by decide +kernel)) (by decide +kernel)
theorem qc_Jxf58ca_isNaN_12338 : Cond.code yJxf58ca_isNaN_12338 cJxf58ca_isNaN_12338 1 (some .boolean) ∈ lw_all := lw_in (List.mem_of_getElem? (i := 1057) (by decide +kernel)) (by decide +kernel)
theorem q_L_207 : Cond.methodLink RL 207 yL_stakeAt ∈ lw_all := lw_in (List.mem_of_getElem? (i := 1062) (by decide +kernel)) (by decide +kernel)
theorem qt_L_stakeAt : Cond.static yL_stakeAt ∈ lw_all := lw_in (List.mem_of_getElem? (i := 1063) (by decide +kernel)) (by decide +kernel)
theorem qw_L_stakeAt : Cond.codeWith yL_stakeAt cL_stakeAt 3 (some .int) [(0, 5, 6, 57)] ∈ lw_all := lw_in (List.mem_of_getElem? (i := 1064) (by decide +kernel)) (by decide +kernel)
theorem q_L_54 : Cond.methodLink RL 54 yX5_stakeAt ∈ lw_all := lw_in (List.mem_of_getElem? (i := 1065) (by decide +kernel)) (by decide +kernel)
theorem qi_X5_stakeAt : Cond.instanceMethod yX5_stakeAt ∈ lw_all := lw_in (List.mem_of_getElem? (i := 1066) (by decide +kernel)) (by decide +kernel)
theorem qs_X5_stakeAt : Cond.selects RX5 yX5_stakeAt yX5_stakeAt ∈ lw_all := lw_in (List.mem_of_getElem? (i := 1067) (by decide +kernel)) (by decide +kernel)
theorem qc_X5_stakeAt : Cond.code yX5_stakeAt cX5_stakeAt 2 (some .int) ∈ lw_all := lw_in (List.mem_of_getElem? (i := 1068) (by decide +kernel)) (by decide +kernel)
theorem q_L_211 : Cond.methodLink RL 211 yL_drawnAt ∈ lw_all := lw_in (List.mem_of_getElem? (i := 1069) (by decide +kernel)) (by decide +kernel)
theorem qt_L_drawnAt : Cond.static yL_drawnAt ∈ lw_all := lw_in (List.mem_of_getElem? (i := 1070) (by decide +kernel)) (by decide +kernel)
theorem qw_L_drawnAt : Cond.codeWith yL_drawnAt cL_drawnAt 4 (some .int) [(0, 6, 7, 57), (0, 6, 12, 71)] ∈ lw_all := lw_in (List.mem_of_getElem? (i := 1071) (by decide +kernel)) (by decide +kernel)
theorem q_L_68 : Cond.methodLink RL 68 yX5_drawnAt ∈ lw_all := lw_in (List.mem_of_getElem? (i := 1072) (by decide +kernel)) (by decide +kernel)
theorem qi_X5_drawnAt : Cond.instanceMethod yX5_drawnAt ∈ lw_all := lw_in (List.mem_of_getElem? (i := 1073) (by decide +kernel)) (by decide +kernel)
theorem qs_X5_drawnAt : Cond.selects RX5 yX5_drawnAt yX5_drawnAt ∈ lw_all := lw_in (List.mem_of_getElem? (i := 1074) (by decide +kernel)) (by decide +kernel)
theorem qc_X5_drawnAt : Cond.code yX5_drawnAt cX5_drawnAt 4 (some .int) ∈ lw_all := lw_in (List.mem_of_getElem? (i := 1075) (by decide +kernel)) (by decide +kernel)
theorem q_X5_160 : Cond.methodLink RX5 160 yX5_needSheet ∈ lw_all := lw_in (List.mem_of_getElem? (i := 1076) (by decide +kernel)) (by decide +kernel)
theorem qi_X5_needSheet : Cond.instanceMethod yX5_needSheet ∈ lw_all := lw_in (List.mem_of_getElem? (i := 1078) (by decide +kernel)) (by decide +kernel)
theorem qc_X5_needSheet : Cond.code yX5_needSheet cX5_needSheet 2 none ∈ lw_all := lw_in (List.mem_of_getElem? (i := 1079) (by decide +kernel)) (by decide +kernel)
theorem q_L_215 : Cond.methodLink RL 215 yL_seemsAgain ∈ lw_all := lw_in (List.mem_of_getElem? (i := 1082) (by decide +kernel)) (by decide +kernel)
theorem qt_L_seemsAgain : Cond.static yL_seemsAgain ∈ lw_all := lw_in (List.mem_of_getElem? (i := 1083) (by decide +kernel)) (by decide +kernel)
theorem qw_L_seemsAgain : Cond.codeWith yL_seemsAgain cL_seemsAgain 4 (some .int) [(0, 6, 7, 57)] ∈ lw_all := lw_in (List.mem_of_getElem? (i := 1084) (by decide +kernel)) (by decide +kernel)
theorem q_L_79 : Cond.methodLink RL 79 yX5_seemsAgain ∈ lw_all := lw_in (List.mem_of_getElem? (i := 1085) (by decide +kernel)) (by decide +kernel)
theorem qi_X5_seemsAgain : Cond.instanceMethod yX5_seemsAgain ∈ lw_all := lw_in (List.mem_of_getElem? (i := 1086) (by decide +kernel)) (by decide +kernel)
theorem qs_X5_seemsAgain : Cond.selects RX5 yX5_seemsAgain yX5_seemsAgain ∈ lw_all := lw_in (List.mem_of_getElem? (i := 1087) (by decide +kernel)) (by decide +kernel)
theorem qc_X5_seemsAgain : Cond.code yX5_seemsAgain cX5_seemsAgain 3 (some .int) ∈ lw_all := lw_in (List.mem_of_getElem? (i := 1088) (by decide +kernel)) (by decide +kernel)
theorem q_X5_182 : Cond.methodLink RX5 182 yX0_walkedPlace ∈ lw_all := lw_in (List.mem_of_getElem? (i := 1089) (by decide +kernel)) (by decide +kernel)
theorem qi_X0_walkedPlace : Cond.instanceMethod yX0_walkedPlace ∈ lw_all := lw_in (List.mem_of_getElem? (i := 1090) (by decide +kernel)) (by decide +kernel)
theorem qs_X0_walkedPlace : Cond.selects RX0 yX0_walkedPlace yX0_walkedPlace ∈ lw_all := lw_in (List.mem_of_getElem? (i := 1091) (by decide +kernel)) (by decide +kernel)
theorem qc_X0_walkedPlace : Cond.code yX0_walkedPlace cX0_walkedPlace 6 (some .int) ∈ lw_all := lw_in (List.mem_of_getElem? (i := 1092) (by decide +kernel)) (by decide +kernel)
theorem q_L_219 : Cond.methodLink RL 219 yL_clearIn ∈ lw_all := lw_in (List.mem_of_getElem? (i := 1094) (by decide +kernel)) (by decide +kernel)
theorem qt_L_clearIn : Cond.static yL_clearIn ∈ lw_all := lw_in (List.mem_of_getElem? (i := 1095) (by decide +kernel)) (by decide +kernel)
theorem qw_L_clearIn : Cond.codeWith yL_clearIn cL_clearIn 4 (some .int) [(0, 6, 7, 57), (0, 6, 12, 71)] ∈ lw_all := lw_in (List.mem_of_getElem? (i := 1096) (by decide +kernel)) (by decide +kernel)
theorem q_L_89 : Cond.methodLink RL 89 yX5_clearIn ∈ lw_all := lw_in (List.mem_of_getElem? (i := 1097) (by decide +kernel)) (by decide +kernel)
theorem qi_X5_clearIn : Cond.instanceMethod yX5_clearIn ∈ lw_all := lw_in (List.mem_of_getElem? (i := 1098) (by decide +kernel)) (by decide +kernel)
theorem qs_X5_clearIn : Cond.selects RX5 yX5_clearIn yX5_clearIn ∈ lw_all := lw_in (List.mem_of_getElem? (i := 1099) (by decide +kernel)) (by decide +kernel)
theorem qc_X5_clearIn : Cond.code yX5_clearIn cX5_clearIn 4 (some .int) ∈ lw_all := lw_in (List.mem_of_getElem? (i := 1100) (by decide +kernel)) (by decide +kernel)
theorem q_X5_197 : Cond.methodLink RX5 197 yX0_hoursUntilClear ∈ lw_all := lw_in (List.mem_of_getElem? (i := 1101) (by decide +kernel)) (by decide +kernel)
theorem qi_X0_hoursUntilClear : Cond.instanceMethod yX0_hoursUntilClear ∈ lw_all := lw_in (List.mem_of_getElem? (i := 1102) (by decide +kernel)) (by decide +kernel)
theorem qs_X0_hoursUntilClear : Cond.selects RX0 yX0_hoursUntilClear yX0_hoursUntilClear ∈ lw_all := lw_in (List.mem_of_getElem? (i := 1103) (by decide +kernel)) (by decide +kernel)
theorem qc_X0_hoursUntilClear : Cond.code yX0_hoursUntilClear cX0_hoursUntilClear 4 (some .int) ∈ lw_all := lw_in (List.mem_of_getElem? (i := 1104) (by decide +kernel)) (by decide +kernel)
end
section
/-! words, part 4 -/
theorem q_L_221 : Cond.methodLink RL 221 yL_postOf ∈ lw_all := lw_in (List.mem_of_getElem? (i := 1106) (by decide +kernel)) (by decide +kernel)
theorem qt_L_postOf : Cond.static yL_postOf ∈ lw_all := lw_in (List.mem_of_getElem? (i := 1107) (by decide +kernel)) (by decide +kernel)
theorem qw_L_postOf : Cond.codeWith yL_postOf cL_postOf 4 (some .int) [(0, 6, 7, 57)] ∈ lw_all := lw_in (List.mem_of_getElem? (i := 1108) (by decide +kernel)) (by decide +kernel)
theorem q_L_59 : Cond.methodLink RL 59 yX5_postOf ∈ lw_all := lw_in (List.mem_of_getElem? (i := 1109) (by decide +kernel)) (by decide +kernel)
theorem qi_X5_postOf : Cond.instanceMethod yX5_postOf ∈ lw_all := lw_in (List.mem_of_getElem? (i := 1110) (by decide +kernel)) (by decide +kernel)
theorem qs_X5_postOf : Cond.selects RX5 yX5_postOf yX5_postOf ∈ lw_all := lw_in (List.mem_of_getElem? (i := 1111) (by decide +kernel)) (by decide +kernel)
theorem qc_X5_postOf : Cond.code yX5_postOf cX5_postOf 3 (some .int) ∈ lw_all := lw_in (List.mem_of_getElem? (i := 1112) (by decide +kernel)) (by decide +kernel)
theorem q_L_228 : Cond.methodLink RL 228 yL_wrongBy ∈ lw_all := lw_in (List.mem_of_getElem? (i := 1113) (by decide +kernel)) (by decide +kernel)
theorem qt_L_wrongBy : Cond.static yL_wrongBy ∈ lw_all := lw_in (List.mem_of_getElem? (i := 1114) (by decide +kernel)) (by decide +kernel)
theorem qw_L_wrongBy : Cond.codeWith yL_wrongBy cL_wrongBy 3 (some .int) [(0, 5, 6, 57)] ∈ lw_all := lw_in (List.mem_of_getElem? (i := 1115) (by decide +kernel)) (by decide +kernel)
theorem q_L_73 : Cond.methodLink RL 73 yX5_wrongBy ∈ lw_all := lw_in (List.mem_of_getElem? (i := 1116) (by decide +kernel)) (by decide +kernel)
theorem qi_X5_wrongBy : Cond.instanceMethod yX5_wrongBy ∈ lw_all := lw_in (List.mem_of_getElem? (i := 1117) (by decide +kernel)) (by decide +kernel)
theorem qs_X5_wrongBy : Cond.selects RX5 yX5_wrongBy yX5_wrongBy ∈ lw_all := lw_in (List.mem_of_getElem? (i := 1118) (by decide +kernel)) (by decide +kernel)
theorem qc_X5_wrongBy : Cond.code yX5_wrongBy cX5_wrongBy 5 (some .int) ∈ lw_all := lw_in (List.mem_of_getElem? (i := 1119) (by decide +kernel)) (by decide +kernel)
theorem q_X5_174 : Cond.methodLink RX5 174 Lib.Math.abs.name ∈ lw_all := lw_in (List.mem_of_getElem? (i := 1120) (by decide +kernel)) (by decide +kernel)
theorem q_L_161 : Cond.methodLink RL 161 yL_line ∈ lw_all := lw_in (List.mem_of_getElem? (i := 1121) (by decide +kernel)) (by decide +kernel)
theorem qt_L_line : Cond.static yL_line ∈ lw_all := lw_in (List.mem_of_getElem? (i := 1122) (by decide +kernel)) (by decide +kernel)
theorem qw_L_line : Cond.codeWith yL_line cL_line 3 (some .int) [(0, 5, 6, 57)] ∈ lw_all := lw_in (List.mem_of_getElem? (i := 1123) (by decide +kernel)) (by decide +kernel)
theorem q_L_113 : Cond.methodLink RL 113 yX5_line ∈ lw_all := lw_in (List.mem_of_getElem? (i := 1124) (by decide +kernel)) (by decide +kernel)
theorem qi_X5_line : Cond.instanceMethod yX5_line ∈ lw_all := lw_in (List.mem_of_getElem? (i := 1125) (by decide +kernel)) (by decide +kernel)
theorem qs_X5_line : Cond.selects RX5 yX5_line yX5_line ∈ lw_all := lw_in (List.mem_of_getElem? (i := 1126) (by decide +kernel)) (by decide +kernel)
theorem qc_X5_line : Cond.code yX5_line cX5_line 4 (some .int) ∈ lw_all := lw_in (List.mem_of_getElem? (i := 1127) (by decide +kernel)) (by decide +kernel)
theorem q_X5_278 : Cond.methodLink RX5 278 yX2_clear ∈ lw_all := lw_in (List.mem_of_getElem? (i := 1128) (by decide +kernel)) (by decide +kernel)
theorem qi_X2_clear : Cond.instanceMethod yX2_clear ∈ lw_all := lw_in (List.mem_of_getElem? (i := 1129) (by decide +kernel)) (by decide +kernel)
theorem qs_X2_clear : Cond.selects RX2 yX2_clear yX2_clear ∈ lw_all := lw_in (List.mem_of_getElem? (i := 1130) (by decide +kernel)) (by decide +kernel)
theorem qc_X2_clear : Cond.code yX2_clear cX2_clear 1 none ∈ lw_all := lw_in (List.mem_of_getElem? (i := 1131) (by decide +kernel)) (by decide +kernel)
theorem q_X5_279 : Cond.methodLink RX5 279 yX2_putStake ∈ lw_all := lw_in (List.mem_of_getElem? (i := 1132) (by decide +kernel)) (by decide +kernel)
theorem qi_X2_putStake : Cond.instanceMethod yX2_putStake ∈ lw_all := lw_in (List.mem_of_getElem? (i := 1133) (by decide +kernel)) (by decide +kernel)
theorem qs_X2_putStake : Cond.selects RX2 yX2_putStake yX2_putStake ∈ lw_all := lw_in (List.mem_of_getElem? (i := 1134) (by decide +kernel)) (by decide +kernel)
theorem qc_X2_putStake : Cond.code yX2_putStake cX2_putStake 4 none ∈ lw_all := lw_in (List.mem_of_getElem? (i := 1135) (by decide +kernel)) (by decide +kernel)
theorem q_X2_19 : Cond.methodLink RX2 19 yX2_put ∈ lw_all := lw_in (List.mem_of_getElem? (i := 1136) (by decide +kernel)) (by decide +kernel)
theorem qi_X2_put : Cond.instanceMethod yX2_put ∈ lw_all := lw_in (List.mem_of_getElem? (i := 1138) (by decide +kernel)) (by decide +kernel)
theorem qc_X2_put : Cond.code yX2_put cX2_put 2 none ∈ lw_all := lw_in (List.mem_of_getElem? (i := 1139) (by decide +kernel)) (by decide +kernel)
theorem q_X2_23 : Cond.methodLink RX2 23 yX2_putNumber ∈ lw_all := lw_in (List.mem_of_getElem? (i := 1140) (by decide +kernel)) (by decide +kernel)
theorem qi_X2_putNumber : Cond.instanceMethod yX2_putNumber ∈ lw_all := lw_in (List.mem_of_getElem? (i := 1142) (by decide +kernel)) (by decide +kernel)
theorem qc_X2_putNumber : Cond.code yX2_putNumber cX2_putNumber 2 none ∈ lw_all := lw_in (List.mem_of_getElem? (i := 1143) (by decide +kernel)) (by decide +kernel)
theorem q_X2_27 : Cond.methodLink RX2 27 Lib.Math.abs.name ∈ lw_all := lw_in (List.mem_of_getElem? (i := 1144) (by decide +kernel)) (by decide +kernel)
theorem q_X5_283 : Cond.methodLink RX5 283 yX2_length ∈ lw_all := lw_in (List.mem_of_getElem? (i := 1145) (by decide +kernel)) (by decide +kernel)
theorem qi_X2_length : Cond.instanceMethod yX2_length ∈ lw_all := lw_in (List.mem_of_getElem? (i := 1146) (by decide +kernel)) (by decide +kernel)
theorem qs_X2_length : Cond.selects RX2 yX2_length yX2_length ∈ lw_all := lw_in (List.mem_of_getElem? (i := 1147) (by decide +kernel)) (by decide +kernel)
theorem qc_X2_length : Cond.code yX2_length cX2_length 1 (some .int) ∈ lw_all := lw_in (List.mem_of_getElem? (i := 1148) (by decide +kernel)) (by decide +kernel)
theorem q_X5_288 : Cond.methodLink RX5 288 yX2_putWord ∈ lw_all := lw_in (List.mem_of_getElem? (i := 1150) (by decide +kernel)) (by decide +kernel)
theorem qi_X2_putWord : Cond.instanceMethod yX2_putWord ∈ lw_all := lw_in (List.mem_of_getElem? (i := 1151) (by decide +kernel)) (by decide +kernel)
theorem qs_X2_putWord : Cond.selects RX2 yX2_putWord yX2_putWord ∈ lw_all := lw_in (List.mem_of_getElem? (i := 1152) (by decide +kernel)) (by decide +kernel)
theorem qc_X2_putWord : Cond.code yX2_putWord cX2_putWord 3 none ∈ lw_all := lw_in (List.mem_of_getElem? (i := 1153) (by decide +kernel)) (by decide +kernel)
theorem q_X2_33 : Cond.methodLink RX2 33 yJ0_length_8abf5 ∈ lw_all := lw_in (List.mem_of_getElem? (i := 1154) (by decide +kernel)) (by decide +kernel)
theorem q_X2_38 : Cond.methodLink RX2 38 yJ0_charAt_5068e ∈ lw_all := lw_in (List.mem_of_getElem? (i := 1155) (by decide +kernel)) (by decide +kernel)
theorem q_L_163 : Cond.methodLink RL 163 yL_character ∈ lw_all := lw_in (List.mem_of_getElem? (i := 1156) (by decide +kernel)) (by decide +kernel)
theorem qt_L_character : Cond.static yL_character ∈ lw_all := lw_in (List.mem_of_getElem? (i := 1157) (by decide +kernel)) (by decide +kernel)
theorem qw_L_character : Cond.codeWith yL_character cL_character 3 (some .int) [(0, 5, 6, 57)] ∈ lw_all := lw_in (List.mem_of_getElem? (i := 1158) (by decide +kernel)) (by decide +kernel)
theorem q_L_116 : Cond.methodLink RL 116 yX5_character ∈ lw_all := lw_in (List.mem_of_getElem? (i := 1159) (by decide +kernel)) (by decide +kernel)
theorem qi_X5_character : Cond.instanceMethod yX5_character ∈ lw_all := lw_in (List.mem_of_getElem? (i := 1160) (by decide +kernel)) (by decide +kernel)
theorem qs_X5_character : Cond.selects RX5 yX5_character yX5_character ∈ lw_all := lw_in (List.mem_of_getElem? (i := 1161) (by decide +kernel)) (by decide +kernel)
theorem qc_X5_character : Cond.code yX5_character cX5_character 2 (some .char) ∈ lw_all := lw_in (List.mem_of_getElem? (i := 1162) (by decide +kernel)) (by decide +kernel)
theorem q_X5_296 : Cond.methodLink RX5 296 yX2_signAt ∈ lw_all := lw_in (List.mem_of_getElem? (i := 1164) (by decide +kernel)) (by decide +kernel)
theorem qi_X2_signAt : Cond.instanceMethod yX2_signAt ∈ lw_all := lw_in (List.mem_of_getElem? (i := 1165) (by decide +kernel)) (by decide +kernel)
theorem qs_X2_signAt : Cond.selects RX2 yX2_signAt yX2_signAt ∈ lw_all := lw_in (List.mem_of_getElem? (i := 1166) (by decide +kernel)) (by decide +kernel)
theorem qc_X2_signAt : Cond.code yX2_signAt cX2_signAt 2 (some .char) ∈ lw_all := lw_in (List.mem_of_getElem? (i := 1167) (by decide +kernel)) (by decide +kernel)
theorem q_L_230 : Cond.methodLink RL 230 yL_heatIn ∈ lw_all := lw_in (List.mem_of_getElem? (i := 1168) (by decide +kernel)) (by decide +kernel)
theorem qt_L_heatIn : Cond.static yL_heatIn ∈ lw_all := lw_in (List.mem_of_getElem? (i := 1169) (by decide +kernel)) (by decide +kernel)
theorem qw_L_heatIn : Cond.codeWith yL_heatIn cL_heatIn 3 (some .int) [(0, 5, 6, 66)] ∈ lw_all := lw_in (List.mem_of_getElem? (i := 1170) (by decide +kernel)) (by decide +kernel)
theorem q_L_92 : Cond.methodLink RL 92 yX5_heatIn ∈ lw_all := lw_in (List.mem_of_getElem? (i := 1171) (by decide +kernel)) (by decide +kernel)
theorem qi_X5_heatIn : Cond.instanceMethod yX5_heatIn ∈ lw_all := lw_in (List.mem_of_getElem? (i := 1172) (by decide +kernel)) (by decide +kernel)
theorem qs_X5_heatIn : Cond.selects RX5 yX5_heatIn yX5_heatIn ∈ lw_all := lw_in (List.mem_of_getElem? (i := 1173) (by decide +kernel)) (by decide +kernel)
theorem qc_X5_heatIn : Cond.code yX5_heatIn cX5_heatIn 2 (some .int) ∈ lw_all := lw_in (List.mem_of_getElem? (i := 1174) (by decide +kernel)) (by decide +kernel)
theorem q_X5_207 : Cond.methodLink RX5 207 yX0_heatAt ∈ lw_all := lw_in (List.mem_of_getElem? (i := 1176) (by decide +kernel)) (by decide +kernel)
theorem q_L_309 : Cond.methodLink RL 309 yL_changes ∈ lw_all := lw_in (List.mem_of_getElem? (i := 1177) (by decide +kernel)) (by decide +kernel)
theorem qt_L_changes : Cond.static yL_changes ∈ lw_all := lw_in (List.mem_of_getElem? (i := 1178) (by decide +kernel)) (by decide +kernel)
set_option maxRecDepth 100000 in
theorem qc_L_changes : Cond.code yL_changes cL_changes 5 (some .boolean) ∈ lw_all := lw_in (List.mem_append_right _ (List.mem_append_right _ (List.mem_append_right _ (List.mem_append_right _ (List.mem_append_right _ (List.mem_append_left _ (List.mem_of_getElem? (i := 190) rfl))))))) (by decide +kernel)
theorem q_L_237 : Cond.methodLink RL 237 yL_erase ∈ lw_all := lw_in (List.mem_of_getElem? (i := 1180) (by decide +kernel)) (by decide +kernel)
theorem qt_L_erase : Cond.static yL_erase ∈ lw_all := lw_in (List.mem_of_getElem? (i := 1181) (by decide +kernel)) (by decide +kernel)
theorem qw_L_erase : Cond.codeWith yL_erase cL_erase 4 (some .int) [(0, 6, 7, 13)] ∈ lw_all := lw_in (List.mem_of_getElem? (i := 1182) (by decide +kernel)) (by decide +kernel)
theorem q_L_30 : Cond.methodLink RL 30 yX5_erase ∈ lw_all := lw_in (List.mem_of_getElem? (i := 1183) (by decide +kernel)) (by decide +kernel)
theorem qi_X5_erase : Cond.instanceMethod yX5_erase ∈ lw_all := lw_in (List.mem_of_getElem? (i := 1184) (by decide +kernel)) (by decide +kernel)
theorem qs_X5_erase : Cond.selects RX5 yX5_erase yX5_erase ∈ lw_all := lw_in (List.mem_of_getElem? (i := 1185) (by decide +kernel)) (by decide +kernel)
theorem qc_X5_erase : Cond.code yX5_erase cX5_erase 3 (some .int) ∈ lw_all := lw_in (List.mem_of_getElem? (i := 1186) (by decide +kernel)) (by decide +kernel)
theorem ql_L_249 : Cond.classLink RL 249 "java/lang/StringBuilder" ∈ lw_all := lw_in (List.mem_of_getElem? (i := 1187) (by decide +kernel)) (by decide +kernel)
theorem qm_StringBuilder : Cond.instantiable "java/lang/StringBuilder" 4 ∈ lw_all := lw_in (List.mem_of_getElem? (i := 1188) (by decide +kernel)) (by decide +kernel)
theorem q_L_251 : Cond.methodLink RL 251 yJ4_init_da8c8 ∈ lw_all := lw_in (List.mem_of_getElem? (i := 1189) (by decide +kernel)) (by decide +kernel)
theorem qi_J4_init_da8c8 : Cond.instanceMethod yJ4_init_da8c8 ∈ lw_all := lw_in (List.mem_of_getElem? (i := 1190) (by decide +kernel)) (by decide +kernel)
theorem qc_J4_init_da8c8 : Cond.code yJ4_init_da8c8 cJ4_init_da8c8 1 none ∈ lw_all := lw_in (List.mem_of_getElem? (i := 1191) (by decide +kernel)) (by decide +kernel)
theorem q_J4_1 : Cond.methodLink RJ4 1 yJ5_init_d00df ∈ lw_all := lw_in (List.mem_of_getElem? (i := 1192) (by decide +kernel)) (by decide +kernel)
theorem qi_J5_init_d00df : Cond.instanceMethod yJ5_init_d00df ∈ lw_all := lw_in (List.mem_of_getElem? (i := 1193) (by decide +kernel)) (by decide +kernel)
theorem qc_J5_init_d00df : Cond.code yJ5_init_d00df cJ5_init_d00df 2 none ∈ lw_all := lw_in (List.mem_of_getElem? (i := 1194) (by decide +kernel)) (by decide +kernel)
theorem q_J5_3 : Cond.methodLink RJ5 3 objectInit ∈ lw_all := lw_in (List.mem_of_getElem? (i := 1195) (by decide +kernel)) (by decide +kernel)
theorem qf_J5_18 : Cond.fieldLink RJ5 18 "java/lang/String" "COMPACT_STRINGS" "Z" ∈ lw_all := lw_in (List.mem_of_getElem? (i := 1196) (by decide +kernel)) (by decide +kernel)
theorem q_J5_26 : Cond.methodLink RJ5 26 yJ2_newBytesFor_77867 ∈ lw_all := lw_in (List.mem_of_getElem? (i := 1197) (by decide +kernel)) (by decide +kernel)
theorem qt_J2_newBytesFor_77867 : Cond.static yJ2_newBytesFor_77867 ∈ lw_all := lw_in (List.mem_of_getElem? (i := 1198) (by decide +kernel)) (by decide +kernel)
theorem qc_J2_newBytesFor_77867 : Cond.code yJ2_newBytesFor_77867 cJ2_newBytesFor_77867 1 (some (.array .byte)) ∈ lw_all := lw_in (List.mem_of_getElem? (i := 1199) (by decide +kernel)) (by decide +kernel)
theorem q_J2_11 : Cond.methodLink RJ2 11 yJ2_newBytesLength_0f7a4 ∈ lw_all := lw_in (List.mem_of_getElem? (i := 1200) (by decide +kernel)) (by decide +kernel)
theorem qt_J2_newBytesLength_0f7a4 : Cond.static yJ2_newBytesLength_0f7a4 ∈ lw_all := lw_in (List.mem_of_getElem? (i := 1201) (by decide +kernel)) (by decide +kernel)
theorem qc_J2_newBytesLength_0f7a4 : Cond.code yJ2_newBytesLength_0f7a4 cJ2_newBytesLength_0f7a4 1 (some .int) ∈ lw_all := lw_in (List.mem_of_getElem? (i := 1202) (by decide +kernel)) (by decide +kernel)
theorem qf_J5_15 : Cond.fieldLink RJ5 15 "java/lang/AbstractStringBuilder" "value" "[B" ∈ lw_all := lw_in (List.mem_of_getElem? (i := 1204) (by decide +kernel)) (by decide +kernel)
theorem qf_J5_22 : Cond.fieldLink RJ5 22 "java/lang/AbstractStringBuilder" "coder" "B" ∈ lw_all := lw_in (List.mem_of_getElem? (i := 1205) (by decide +kernel)) (by decide +kernel)
theorem qf_J0_1048 : Cond.fieldLink RJ0 1048 "java/lang/AbstractStringBuilder" "maybeLatin1" "Z" ∈ lw_all := lw_in (List.mem_of_getElem? (i := 1206) (by decide +kernel)) (by decide +kernel)
theorem qf_J5_79 : Cond.fieldLink RJ5 79 "java/lang/AbstractStringBuilder" "count" "I" ∈ lw_all := lw_in (List.mem_of_getElem? (i := 1207) (by decide +kernel)) (by decide +kernel)
theorem q_L_254 : Cond.methodLink RL 254 yJ4_append_15ec4 ∈ lw_all := lw_in (List.mem_of_getElem? (i := 1218) (by decide +kernel)) (by decide +kernel)
theorem qi_J4_append_15ec4 : Cond.instanceMethod yJ4_append_15ec4 ∈ lw_all := lw_in (List.mem_of_getElem? (i := 1219) (by decide +kernel)) (by decide +kernel)
theorem qs_J4_append_15ec4 : Cond.selects RJ4 yJ4_append_15ec4 yJ4_append_15ec4 ∈ lw_all := lw_in (List.mem_of_getElem? (i := 1220) (by decide +kernel)) (by decide +kernel)
theorem qc_J4_append_15ec4 : Cond.code yJ4_append_15ec4 cJ4_append_15ec4 2 (some (.object "java/lang/StringBuilder")) ∈ lw_all := lw_in (List.mem_of_getElem? (i := 1221) (by decide +kernel)) (by decide +kernel)
theorem q_J4_29 : Cond.methodLink RJ4 29 yJ5_append_cf1ce ∈ lw_all := lw_in (List.mem_of_getElem? (i := 1222) (by decide +kernel)) (by decide +kernel)
theorem qi_J5_append_cf1ce : Cond.instanceMethod yJ5_append_cf1ce ∈ lw_all := lw_in (List.mem_of_getElem? (i := 1223) (by decide +kernel)) (by decide +kernel)
theorem qc_J5_append_cf1ce : Cond.code yJ5_append_cf1ce cJ5_append_cf1ce 3 (some (.object "java/lang/AbstractStringBuilder")) ∈ lw_all := lw_in (List.mem_of_getElem? (i := 1224) (by decide +kernel)) (by decide +kernel)
theorem q_J5_204 : Cond.methodLink RJ5 204 yJ5_appendNull_278bc ∈ lw_all := lw_in (List.mem_of_getElem? (i := 1225) (by decide +kernel)) (by decide +kernel)
theorem qi_J5_appendNull_278bc : Cond.instanceMethod yJ5_appendNull_278bc ∈ lw_all := lw_in (List.mem_of_getElem? (i := 1227) (by decide +kernel)) (by decide +kernel)
theorem qc_J5_appendNull_278bc : Cond.code yJ5_appendNull_278bc cJ5_appendNull_278bc 3 (some (.object "java/lang/AbstractStringBuilder")) ∈ lw_all := lw_in (List.mem_of_getElem? (i := 1228) (by decide +kernel)) (by decide +kernel)
theorem q_J5_100 : Cond.methodLink RJ5 100 yJ5_ensureCapacityInternal_d00df ∈ lw_all := lw_in (List.mem_of_getElem? (i := 1229) (by decide +kernel)) (by decide +kernel)
theorem qi_J5_ensureCapacityInternal_d00df : Cond.instanceMethod yJ5_ensureCapacityInternal_d00df ∈ lw_all := lw_in (List.mem_of_getElem? (i := 1231) (by decide +kernel)) (by decide +kernel)
theorem qc_J5_ensureCapacityInternal_d00df : Cond.code yJ5_ensureCapacityInternal_d00df cJ5_ensureCapacityInternal_d00df 3 none ∈ lw_all := lw_in (List.mem_of_getElem? (i := 1232) (by decide +kernel)) (by decide +kernel)
theorem q_J5_104 : Cond.methodLink RJ5 104 yJ5_newCapacity_0f7a4 ∈ lw_all := lw_in (List.mem_of_getElem? (i := 1233) (by decide +kernel)) (by decide +kernel)
theorem qi_J5_newCapacity_0f7a4 : Cond.instanceMethod yJ5_newCapacity_0f7a4 ∈ lw_all := lw_in (List.mem_of_getElem? (i := 1235) (by decide +kernel)) (by decide +kernel)
theorem qc_J5_newCapacity_0f7a4 : Cond.code yJ5_newCapacity_0f7a4 cJ5_newCapacity_0f7a4 6 (some .int) ∈ lw_all := lw_in (List.mem_of_getElem? (i := 1236) (by decide +kernel)) (by decide +kernel)
theorem q_J5_114 : Cond.methodLink RJ5 114 yJ8_newLength_cabcc ∈ lw_all := lw_in (List.mem_of_getElem? (i := 1237) (by decide +kernel)) (by decide +kernel)
theorem qt_J8_newLength_cabcc : Cond.static yJ8_newLength_cabcc ∈ lw_all := lw_in (List.mem_of_getElem? (i := 1238) (by decide +kernel)) (by decide +kernel)
theorem qc_J8_newLength_cabcc : Cond.code yJ8_newLength_cabcc cJ8_newLength_cabcc 4 (some .int) ∈ lw_all := lw_in (List.mem_of_getElem? (i := 1239) (by decide +kernel)) (by decide +kernel)
theorem q_J8_194 : Cond.methodLink RJ8 194 Lib.Math.max.name ∈ lw_all := lw_in (List.mem_of_getElem? (i := 1240) (by decide +kernel)) (by decide +kernel)
theorem q_J8_201 : Cond.methodLink RJ8 201 yJ8_hugeLength_7cf53 ∈ lw_all := lw_in (List.mem_of_getElem? (i := 1242) (by decide +kernel)) (by decide +kernel)
theorem qt_J8_hugeLength_7cf53 : Cond.static yJ8_hugeLength_7cf53 ∈ lw_all := lw_in (List.mem_of_getElem? (i := 1243) (by decide +kernel)) (by decide +kernel)
theorem qc_J8_hugeLength_7cf53 : Cond.code yJ8_hugeLength_7cf53 cJ8_hugeLength_7cf53 3 (some .int) ∈ lw_all := lw_in (List.mem_of_getElem? (i := 1244) (by decide +kernel)) (by decide +kernel)
theorem q_J5_108 : Cond.methodLink RJ5 108 yJ7_copyOf_9075b ∈ lw_all := lw_in (List.mem_of_getElem? (i := 1246) (by decide +kernel)) (by decide +kernel)
theorem qt_J7_copyOf_9075b : Cond.static yJ7_copyOf_9075b ∈ lw_all := lw_in (List.mem_of_getElem? (i := 1247) (by decide +kernel)) (by decide +kernel)
theorem qc_J7_copyOf_9075b : Cond.code yJ7_copyOf_9075b cJ7_copyOf_9075b 3 (some (.array .byte)) ∈ lw_all := lw_in (List.mem_of_getElem? (i := 1248) (by decide +kernel)) (by decide +kernel)
theorem ql_J7_311 : Cond.classLink RJ7 311 "[B" ∈ lw_all := lw_in (List.mem_of_getElem? (i := 1255) (by decide +kernel)) (by decide +kernel)
theorem q_J7_304 : Cond.methodLink RJ7 304 Lib.Math.min.name ∈ lw_all := lw_in (List.mem_of_getElem? (i := 1256) (by decide +kernel)) (by decide +kernel)
theorem q_J7_150 : Cond.methodLink RJ7 150 arraycopyName ∈ lw_all := lw_in (List.mem_of_getElem? (i := 1257) (by decide +kernel)) (by decide +kernel)
theorem q_J5_83 : Cond.methodLink RJ5 83 yJ5_isLatin1_aae02 ∈ lw_all := lw_in (List.mem_of_getElem? (i := 1258) (by decide +kernel)) (by decide +kernel)
theorem qi_J5_isLatin1_aae02 : Cond.instanceMethod yJ5_isLatin1_aae02 ∈ lw_all := lw_in (List.mem_of_getElem? (i := 1259) (by decide +kernel)) (by decide +kernel)
theorem qc_J5_isLatin1_aae02 : Cond.code yJ5_isLatin1_aae02 cJ5_isLatin1_aae02 1 (some .boolean) ∈ lw_all := lw_in (List.mem_of_getElem? (i := 1262) (by decide +kernel)) (by decide +kernel)
theorem q_J5_226 : Cond.methodLink RJ5 226 yJ2_putCharsAt_cd4e5 ∈ lw_all := lw_in (List.mem_of_getElem? (i := 1263) (by decide +kernel)) (by decide +kernel)
theorem qt_J2_putCharsAt_cd4e5 : Cond.static yJ2_putCharsAt_cd4e5 ∈ lw_all := lw_in (List.mem_of_getElem? (i := 1264) (by decide +kernel)) (by decide +kernel)
theorem qc_J2_putCharsAt_cd4e5 : Cond.code yJ2_putCharsAt_cd4e5 cJ2_putCharsAt_cd4e5 7 (some .int) ∈ lw_all := lw_in (List.mem_of_getElem? (i := 1265) (by decide +kernel)) (by decide +kernel)
theorem q_J2_96 : Cond.methodLink RJ2 96 yJ2_checkBoundsBeginEnd_d044e ∈ lw_all := lw_in (List.mem_of_getElem? (i := 1266) (by decide +kernel)) (by decide +kernel)
theorem qt_J2_checkBoundsBeginEnd_d044e : Cond.static yJ2_checkBoundsBeginEnd_d044e ∈ lw_all := lw_in (List.mem_of_getElem? (i := 1267) (by decide +kernel)) (by decide +kernel)
theorem qc_J2_checkBoundsBeginEnd_d044e : Cond.code yJ2_checkBoundsBeginEnd_d044e cJ2_checkBoundsBeginEnd_d044e 3 none ∈ lw_all := lw_in (List.mem_of_getElem? (i := 1268) (by decide +kernel)) (by decide +kernel)
theorem q_J2_241 : Cond.methodLink RJ2 241 yJ0_checkBoundsBeginEnd_23922 ∈ lw_all := lw_in (List.mem_of_getElem? (i := 1269) (by decide +kernel)) (by decide +kernel)
theorem qt_J0_checkBoundsBeginEnd_23922 : Cond.static yJ0_checkBoundsBeginEnd_23922 ∈ lw_all := lw_in (List.mem_of_getElem? (i := 1270) (by decide +kernel)) (by decide +kernel)
theorem qc_J0_checkBoundsBeginEnd_23922 : Cond.code yJ0_checkBoundsBeginEnd_23922 cJ0_checkBoundsBeginEnd_23922 3 none ∈ lw_all := lw_in (List.mem_of_getElem? (i := 1271) (by decide +kernel)) (by decide +kernel)
theorem q_J0_1062 : Cond.methodLink RJ0 1062 yJ3_checkFromToIndex_8c36e ∈ lw_all := lw_in (List.mem_of_getElem? (i := 1272) (by decide +kernel)) (by decide +kernel)
theorem qt_J3_checkFromToIndex_8c36e : Cond.static yJ3_checkFromToIndex_8c36e ∈ lw_all := lw_in (List.mem_of_getElem? (i := 1273) (by decide +kernel)) (by decide +kernel)
theorem qc_J3_checkFromToIndex_8c36e : Cond.code yJ3_checkFromToIndex_8c36e cJ3_checkFromToIndex_8c36e 4 (some .int) ∈ lw_all := lw_in (List.mem_of_getElem? (i := 1274) (by decide +kernel)) (by decide +kernel)
theorem q_J2_111 : Cond.methodLink RJ2 111 yJ2_putChar_b72d1 ∈ lw_all := lw_in (List.mem_of_getElem? (i := 1275) (by decide +kernel)) (by decide +kernel)
theorem qt_J2_putChar_b72d1 : Cond.static yJ2_putChar_b72d1 ∈ lw_all := lw_in (List.mem_of_getElem? (i := 1276) (by decide +kernel)) (by decide +kernel)
theorem qc_J2_putChar_b72d1 : Cond.code yJ2_putChar_b72d1 cJ2_putChar_b72d1 3 none ∈ lw_all := lw_in (List.mem_of_getElem? (i := 1277) (by decide +kernel)) (by decide +kernel)
theorem q_J5_32 : Cond.methodLink RJ5 32 yJ0_length_8abf5 ∈ lw_all := lw_in (List.mem_of_getElem? (i := 1278) (by decide +kernel)) (by decide +kernel)
theorem q_J5_208 : Cond.methodLink RJ5 208 yJ5_putStringAt_47b60 ∈ lw_all := lw_in (List.mem_of_getElem? (i := 1279) (by decide +kernel)) (by decide +kernel)
theorem qi_J5_putStringAt_47b60 : Cond.instanceMethod yJ5_putStringAt_47b60 ∈ lw_all := lw_in (List.mem_of_getElem? (i := 1281) (by decide +kernel)) (by decide +kernel)
theorem qc_J5_putStringAt_47b60 : Cond.code yJ5_putStringAt_47b60 cJ5_putStringAt_47b60 3 none ∈ lw_all := lw_in (List.mem_of_getElem? (i := 1282) (by decide +kernel)) (by decide +kernel)
theorem q_J5_397 : Cond.methodLink RJ5 397 yJ5_inflateIfNeededFor_a7421 ∈ lw_all := lw_in (List.mem_of_getElem? (i := 1283) (by decide +kernel)) (by decide +kernel)
theorem qi_J5_inflateIfNeededFor_a7421 : Cond.instanceMethod yJ5_inflateIfNeededFor_a7421 ∈ lw_all := lw_in (List.mem_of_getElem? (i := 1285) (by decide +kernel)) (by decide +kernel)
theorem qc_J5_inflateIfNeededFor_a7421 : Cond.code yJ5_inflateIfNeededFor_a7421 cJ5_inflateIfNeededFor_a7421 2 none ∈ lw_all := lw_in (List.mem_of_getElem? (i := 1286) (by decide +kernel)) (by decide +kernel)
theorem q_J5_40 : Cond.methodLink RJ5 40 yJ0_coder_7d493 ∈ lw_all := lw_in (List.mem_of_getElem? (i := 1287) (by decide +kernel)) (by decide +kernel)
theorem q_J5_195 : Cond.methodLink RJ5 195 yJ5_inflate_da8c8 ∈ lw_all := lw_in (List.mem_of_getElem? (i := 1288) (by decide +kernel)) (by decide +kernel)
theorem qi_J5_inflate_da8c8 : Cond.instanceMethod yJ5_inflate_da8c8 ∈ lw_all := lw_in (List.mem_of_getElem? (i := 1290) (by decide +kernel)) (by decide +kernel)
theorem qc_J5_inflate_da8c8 : Cond.code yJ5_inflate_da8c8 cJ5_inflate_da8c8 2 none ∈ lw_all := lw_in (List.mem_of_getElem? (i := 1291) (by decide +kernel)) (by decide +kernel)
theorem q_J5_125 : Cond.methodLink RJ5 125 yJ1_inflate_0e8fd ∈ lw_all := lw_in (List.mem_of_getElem? (i := 1292) (by decide +kernel)) (by decide +kernel)
theorem qt_J1_inflate_0e8fd : Cond.static yJ1_inflate_0e8fd ∈ lw_all := lw_in (List.mem_of_getElem? (i := 1293) (by decide +kernel)) (by decide +kernel)
theorem qc_J1_inflate_0e8fd : Cond.code yJ1_inflate_0e8fd cJ1_inflate_0e8fd 5 none ∈ lw_all := lw_in (List.mem_of_getElem? (i := 1294) (by decide +kernel)) (by decide +kernel)
theorem q_J1_240 : Cond.methodLink RJ1 240 yJ2_inflate_0e8fd ∈ lw_all := lw_in (List.mem_of_getElem? (i := 1295) (by decide +kernel)) (by decide +kernel)
theorem qt_J2_inflate_0e8fd : Cond.static yJ2_inflate_0e8fd ∈ lw_all := lw_in (List.mem_of_getElem? (i := 1296) (by decide +kernel)) (by decide +kernel)
theorem qc_J2_inflate_0e8fd : Cond.code yJ2_inflate_0e8fd cJ2_inflate_0e8fd 6 none ∈ lw_all := lw_in (List.mem_of_getElem? (i := 1297) (by decide +kernel)) (by decide +kernel)
theorem q_J2_173 : Cond.methodLink RJ2 173 yJ2_checkBoundsOffCount_d044e ∈ lw_all := lw_in (List.mem_of_getElem? (i := 1298) (by decide +kernel)) (by decide +kernel)
theorem qt_J2_checkBoundsOffCount_d044e : Cond.static yJ2_checkBoundsOffCount_d044e ∈ lw_all := lw_in (List.mem_of_getElem? (i := 1299) (by decide +kernel)) (by decide +kernel)
theorem qc_J2_checkBoundsOffCount_d044e : Cond.code yJ2_checkBoundsOffCount_d044e cJ2_checkBoundsOffCount_d044e 3 none ∈ lw_all := lw_in (List.mem_of_getElem? (i := 1300) (by decide +kernel)) (by decide +kernel)
theorem q_J2_419 : Cond.methodLink RJ2 419 yJ0_checkBoundsOffCount_cabcc ∈ lw_all := lw_in (List.mem_of_getElem? (i := 1301) (by decide +kernel)) (by decide +kernel)
theorem qt_J0_checkBoundsOffCount_cabcc : Cond.static yJ0_checkBoundsOffCount_cabcc ∈ lw_all := lw_in (List.mem_of_getElem? (i := 1302) (by decide +kernel)) (by decide +kernel)
theorem qc_J0_checkBoundsOffCount_cabcc : Cond.code yJ0_checkBoundsOffCount_cabcc cJ0_checkBoundsOffCount_cabcc 3 (some .int) ∈ lw_all := lw_in (List.mem_of_getElem? (i := 1303) (by decide +kernel)) (by decide +kernel)
theorem q_J0_1065 : Cond.methodLink RJ0 1065 yJ3_checkFromIndexSize_8c36e ∈ lw_all := lw_in (List.mem_of_getElem? (i := 1304) (by decide +kernel)) (by decide +kernel)
theorem qt_J3_checkFromIndexSize_8c36e : Cond.static yJ3_checkFromIndexSize_8c36e ∈ lw_all := lw_in (List.mem_of_getElem? (i := 1305) (by decide +kernel)) (by decide +kernel)
theorem qc_J3_checkFromIndexSize_8c36e : Cond.code yJ3_checkFromIndexSize_8c36e cJ3_checkFromIndexSize_8c36e 4 (some .int) ∈ lw_all := lw_in (List.mem_of_getElem? (i := 1306) (by decide +kernel)) (by decide +kernel)
theorem q_J5_399 : Cond.methodLink RJ5 399 yJ0_getBytes_840e7 ∈ lw_all := lw_in (List.mem_of_getElem? (i := 1307) (by decide +kernel)) (by decide +kernel)
theorem qi_J0_getBytes_840e7 : Cond.instanceMethod yJ0_getBytes_840e7 ∈ lw_all := lw_in (List.mem_of_getElem? (i := 1308) (by decide +kernel)) (by decide +kernel)
theorem qs_J0_getBytes_840e7 : Cond.selects RJ0 yJ0_getBytes_840e7 yJ0_getBytes_840e7 ∈ lw_all := lw_in (List.mem_of_getElem? (i := 1309) (by decide +kernel)) (by decide +kernel)
theorem qc_J0_getBytes_840e7 : Cond.code yJ0_getBytes_840e7 cJ0_getBytes_840e7 4 none ∈ lw_all := lw_in (List.mem_of_getElem? (i := 1310) (by decide +kernel)) (by decide +kernel)
theorem q_J0_212 : Cond.methodLink RJ0 212 arraycopyName ∈ lw_all := lw_in (List.mem_of_getElem? (i := 1311) (by decide +kernel)) (by decide +kernel)
theorem q_J0_106 : Cond.methodLink RJ0 106 yJ1_inflate_0e8fd ∈ lw_all := lw_in (List.mem_of_getElem? (i := 1312) (by decide +kernel)) (by decide +kernel)
theorem q_L_257 : Cond.methodLink RL 257 yJ4_append_bf812 ∈ lw_all := lw_in (List.mem_of_getElem? (i := 1313) (by decide +kernel)) (by decide +kernel)
theorem qi_J4_append_bf812 : Cond.instanceMethod yJ4_append_bf812 ∈ lw_all := lw_in (List.mem_of_getElem? (i := 1314) (by decide +kernel)) (by decide +kernel)
theorem qs_J4_append_bf812 : Cond.selects RJ4 yJ4_append_bf812 yJ4_append_bf812 ∈ lw_all := lw_in (List.mem_of_getElem? (i := 1315) (by decide +kernel)) (by decide +kernel)
theorem qc_J4_append_bf812 : Cond.code yJ4_append_bf812 cJ4_append_bf812 2 (some (.object "java/lang/StringBuilder")) ∈ lw_all := lw_in (List.mem_of_getElem? (i := 1316) (by decide +kernel)) (by decide +kernel)
theorem q_J4_53 : Cond.methodLink RJ4 53 yJ5_append_c97b9 ∈ lw_all := lw_in (List.mem_of_getElem? (i := 1317) (by decide +kernel)) (by decide +kernel)
theorem qi_J5_append_c97b9 : Cond.instanceMethod yJ5_append_c97b9 ∈ lw_all := lw_in (List.mem_of_getElem? (i := 1318) (by decide +kernel)) (by decide +kernel)
theorem qc_J5_append_c97b9 : Cond.code yJ5_append_c97b9 cJ5_append_c97b9 4 (some (.object "java/lang/AbstractStringBuilder")) ∈ lw_all := lw_in (List.mem_of_getElem? (i := 1319) (by decide +kernel)) (by decide +kernel)
theorem q_J5_245 : Cond.methodLink RJ5 245 yJ6_stringSize_0f7a4 ∈ lw_all := lw_in (List.mem_of_getElem? (i := 1320) (by decide +kernel)) (by decide +kernel)
theorem qt_J6_stringSize_0f7a4 : Cond.static yJ6_stringSize_0f7a4 ∈ lw_all := lw_in (List.mem_of_getElem? (i := 1321) (by decide +kernel)) (by decide +kernel)
theorem qc_J6_stringSize_0f7a4 : Cond.code yJ6_stringSize_0f7a4 cJ6_stringSize_0f7a4 4 (some .int) ∈ lw_all := lw_in (List.mem_of_getElem? (i := 1322) (by decide +kernel)) (by decide +kernel)
theorem q_J5_248 : Cond.methodLink RJ5 248 yJ6_getChars_ba4f3 ∈ lw_all := lw_in (List.mem_of_getElem? (i := 1323) (by decide +kernel)) (by decide +kernel)
theorem qt_J6_getChars_ba4f3 : Cond.static yJ6_getChars_ba4f3 ∈ lw_all := lw_in (List.mem_of_getElem? (i := 1324) (by decide +kernel)) (by decide +kernel)
theorem qc_J6_getChars_ba4f3 : Cond.code yJ6_getChars_ba4f3 cJ6_getChars_ba4f3 7 (some .int) ∈ lw_all := lw_in (List.mem_of_getElem? (i := 1325) (by decide +kernel)) (by decide +kernel)
theorem qf_J6_83 : Cond.fieldLink RJ6 83 "java/lang/Integer" "DigitOnes" "[B" ∈ lw_all := lw_in (List.mem_of_getElem? (i := 1326) (by decide +kernel)) (by decide +kernel)
theorem qf_J6_87 : Cond.fieldLink RJ6 87 "java/lang/Integer" "DigitTens" "[B" ∈ lw_all := lw_in (List.mem_of_getElem? (i := 1328) (by decide +kernel)) (by decide +kernel)
theorem q_J5_251 : Cond.methodLink RJ5 251 yJ2_getChars_46870 ∈ lw_all := lw_in (List.mem_of_getElem? (i := 1330) (by decide +kernel)) (by decide +kernel)
theorem qt_J2_getChars_46870 : Cond.static yJ2_getChars_46870 ∈ lw_all := lw_in (List.mem_of_getElem? (i := 1331) (by decide +kernel)) (by decide +kernel)
theorem qc_J2_getChars_46870 : Cond.code yJ2_getChars_46870 cJ2_getChars_46870 5 (some .int) ∈ lw_all := lw_in (List.mem_of_getElem? (i := 1332) (by decide +kernel)) (by decide +kernel)
theorem q_J2_393 : Cond.methodLink RJ2 393 yJ2_getChars_ba4f3 ∈ lw_all := lw_in (List.mem_of_getElem? (i := 1333) (by decide +kernel)) (by decide +kernel)
theorem qt_J2_getChars_ba4f3 : Cond.static yJ2_getChars_ba4f3 ∈ lw_all := lw_in (List.mem_of_getElem? (i := 1334) (by decide +kernel)) (by decide +kernel)
theorem qc_J2_getChars_ba4f3 : Cond.code yJ2_getChars_ba4f3 cJ2_getChars_ba4f3 7 (some .int) ∈ lw_all := lw_in (List.mem_of_getElem? (i := 1335) (by decide +kernel)) (by decide +kernel)
theorem qf_J2_403 : Cond.fieldLink RJ2 403 "java/lang/Integer" "DigitOnes" "[B" ∈ lw_all := lw_in (List.mem_of_getElem? (i := 1336) (by decide +kernel)) (by decide +kernel)
theorem qf_J2_407 : Cond.fieldLink RJ2 407 "java/lang/Integer" "DigitTens" "[B" ∈ lw_all := lw_in (List.mem_of_getElem? (i := 1337) (by decide +kernel)) (by decide +kernel)
theorem q_L_262 : Cond.methodLink RL 262 yJ4_toString_0e30d ∈ lw_all := lw_in (List.mem_of_getElem? (i := 1339) (by decide +kernel)) (by decide +kernel)
theorem qi_J4_toString_0e30d : Cond.instanceMethod yJ4_toString_0e30d ∈ lw_all := lw_in (List.mem_of_getElem? (i := 1340) (by decide +kernel)) (by decide +kernel)
theorem qs_J4_toString_0e30d : Cond.selects RJ4 yJ4_toString_0e30d yJ4_toString_0e30d ∈ lw_all := lw_in (List.mem_of_getElem? (i := 1341) (by decide +kernel)) (by decide +kernel)
theorem qc_J4_toString_0e30d : Cond.code yJ4_toString_0e30d cJ4_toString_0e30d 1 (some (.object "java/lang/String")) ∈ lw_all := lw_in (List.mem_of_getElem? (i := 1342) (by decide +kernel)) (by decide +kernel)
theorem ql_J4_18 : Cond.classLink RJ4 18 "java/lang/String" ∈ lw_all := lw_in (List.mem_of_getElem? (i := 1343) (by decide +kernel)) (by decide +kernel)
theorem q_J4_137 : Cond.methodLink RJ4 137 yJ0_init_81219 ∈ lw_all := lw_in (List.mem_of_getElem? (i := 1344) (by decide +kernel)) (by decide +kernel)
theorem qi_J0_init_81219 : Cond.instanceMethod yJ0_init_81219 ∈ lw_all := lw_in (List.mem_of_getElem? (i := 1345) (by decide +kernel)) (by decide +kernel)
theorem qc_J0_init_81219 : Cond.code yJ0_init_81219 cJ0_init_81219 2 none ∈ lw_all := lw_in (List.mem_of_getElem? (i := 1346) (by decide +kernel)) (by decide +kernel)
theorem q_J0_489 : Cond.methodLink RJ0 489 yJ0_init_db425 ∈ lw_all := lw_in (List.mem_of_getElem? (i := 1347) (by decide +kernel)) (by decide +kernel)
theorem qi_J0_init_db425 : Cond.instanceMethod yJ0_init_db425 ∈ lw_all := lw_in (List.mem_of_getElem? (i := 1348) (by decide +kernel)) (by decide +kernel)
theorem qc_J0_init_db425 : Cond.code yJ0_init_db425 cJ0_init_db425 5 none ∈ lw_all := lw_in (List.mem_of_getElem? (i := 1349) (by decide +kernel)) (by decide +kernel)
theorem q_J0_1 : Cond.methodLink RJ0 1 objectInit ∈ lw_all := lw_in (List.mem_of_getElem? (i := 1350) (by decide +kernel)) (by decide +kernel)
theorem q_J0_552 : Cond.methodLink RJ0 552 yJ5_getValue_6d5f1 ∈ lw_all := lw_in (List.mem_of_getElem? (i := 1351) (by decide +kernel)) (by decide +kernel)
theorem qi_J5_getValue_6d5f1 : Cond.instanceMethod yJ5_getValue_6d5f1 ∈ lw_all := lw_in (List.mem_of_getElem? (i := 1352) (by decide +kernel)) (by decide +kernel)
theorem qc_J5_getValue_6d5f1 : Cond.code yJ5_getValue_6d5f1 cJ5_getValue_6d5f1 1 (some (.array .byte)) ∈ lw_all := lw_in (List.mem_of_getElem? (i := 1355) (by decide +kernel)) (by decide +kernel)
theorem q_J0_549 : Cond.methodLink RJ0 549 yJ5_length_8abf5 ∈ lw_all := lw_in (List.mem_of_getElem? (i := 1356) (by decide +kernel)) (by decide +kernel)
theorem qi_J5_length_8abf5 : Cond.instanceMethod yJ5_length_8abf5 ∈ lw_all := lw_in (List.mem_of_getElem? (i := 1357) (by decide +kernel)) (by decide +kernel)
theorem qi_J4_length_8abf5 : Cond.instanceMethod yJ4_length_8abf5 ∈ lw_all := lw_in (List.mem_of_getElem? (i := 1360) (by decide +kernel)) (by decide +kernel)
theorem qc_J4_length_8abf5 : Cond.code yJ4_length_8abf5 cJ4_length_8abf5 1 (some .int) ∈ lw_all := lw_in (List.mem_of_getElem? (i := 1361) (by decide +kernel)) (by decide +kernel)
theorem q_J4_343 : Cond.methodLink RJ4 343 yJ5_length_8abf5 ∈ lw_all := lw_in (List.mem_of_getElem? (i := 1362) (by decide +kernel)) (by decide +kernel)
theorem qc_J5_length_8abf5 : Cond.code yJ5_length_8abf5 cJ5_length_8abf5 1 (some .int) ∈ lw_all := lw_in (List.mem_of_getElem? (i := 1363) (by decide +kernel)) (by decide +kernel)
theorem q_J0_1047 : Cond.methodLink RJ0 1047 yJ5_isLatin1_aae02 ∈ lw_all := lw_in (List.mem_of_getElem? (i := 1364) (by decide +kernel)) (by decide +kernel)
theorem q_J0_54 : Cond.methodLink RJ0 54 yJ7_copyOfRange_39247 ∈ lw_all := lw_in (List.mem_of_getElem? (i := 1365) (by decide +kernel)) (by decide +kernel)
theorem qt_J7_copyOfRange_39247 : Cond.static yJ7_copyOfRange_39247 ∈ lw_all := lw_in (List.mem_of_getElem? (i := 1366) (by decide +kernel)) (by decide +kernel)
theorem qc_J7_copyOfRange_39247 : Cond.code yJ7_copyOfRange_39247 cJ7_copyOfRange_39247 3 (some (.array .byte)) ∈ lw_all := lw_in (List.mem_of_getElem? (i := 1367) (by decide +kernel)) (by decide +kernel)
theorem q_J7_339 : Cond.methodLink RJ7 339 yJ7_copyOfRangeByte_39247 ∈ lw_all := lw_in (List.mem_of_getElem? (i := 1368) (by decide +kernel)) (by decide +kernel)
theorem qt_J7_copyOfRangeByte_39247 : Cond.static yJ7_copyOfRangeByte_39247 ∈ lw_all := lw_in (List.mem_of_getElem? (i := 1369) (by decide +kernel)) (by decide +kernel)
theorem qc_J7_copyOfRangeByte_39247 : Cond.code yJ7_copyOfRangeByte_39247 cJ7_copyOfRangeByte_39247 5 (some (.array .byte)) ∈ lw_all := lw_in (List.mem_of_getElem? (i := 1370) (by decide +kernel)) (by decide +kernel)
theorem q_J7_343 : Cond.methodLink RJ7 343 yJ7_checkLength_df160 ∈ lw_all := lw_in (List.mem_of_getElem? (i := 1371) (by decide +kernel)) (by decide +kernel)
theorem qt_J7_checkLength_df160 : Cond.static yJ7_checkLength_df160 ∈ lw_all := lw_in (List.mem_of_getElem? (i := 1372) (by decide +kernel)) (by decide +kernel)
theorem qc_J7_checkLength_df160 : Cond.code yJ7_checkLength_df160 cJ7_checkLength_df160 2 none ∈ lw_all := lw_in (List.mem_of_getElem? (i := 1373) (by decide +kernel)) (by decide +kernel)
theorem ql_J7_43 : Cond.classLink RJ7 43 "java/lang/IllegalArgumentException" ∈ lw_all := lw_in (List.mem_of_getElem? (i := 1374) (by decide +kernel)) (by decide +kernel)
theorem ql_J7_45 : Cond.classLink RJ7 45 "java/lang/StringBuilder" ∈ lw_all := lw_in (List.mem_of_getElem? (i := 1375) (by decide +kernel)) (by decide +kernel)
theorem q_J7_47 : Cond.methodLink RJ7 47 yJ4_init_da8c8 ∈ lw_all := lw_in (List.mem_of_getElem? (i := 1376) (by decide +kernel)) (by decide +kernel)
theorem q_J7_54 : Cond.methodLink RJ7 54 yJ4_append_bf812 ∈ lw_all := lw_in (List.mem_of_getElem? (i := 1377) (by decide +kernel)) (by decide +kernel)
theorem q_J7_50 : Cond.methodLink RJ7 50 yJ4_append_15ec4 ∈ lw_all := lw_in (List.mem_of_getElem? (i := 1379) (by decide +kernel)) (by decide +kernel)
theorem q_J7_61 : Cond.methodLink RJ7 61 yJ4_toString_0e30d ∈ lw_all := lw_in (List.mem_of_getElem? (i := 1380) (by decide +kernel)) (by decide +kernel)
theorem q_J0_1051 : Cond.methodLink RJ0 1051 yJ2_compress_39247 ∈ lw_all := lw_in (List.mem_of_getElem? (i := 1382) (by decide +kernel)) (by decide +kernel)
theorem qt_J2_compress_39247 : Cond.static yJ2_compress_39247 ∈ lw_all := lw_in (List.mem_of_getElem? (i := 1383) (by decide +kernel)) (by decide +kernel)
theorem qc_J2_compress_39247 : Cond.code yJ2_compress_39247 cJ2_compress_39247 6 (some (.array .byte)) ∈ lw_all := lw_in (List.mem_of_getElem? (i := 1384) (by decide +kernel)) (by decide +kernel)
theorem q_J2_123 : Cond.methodLink RJ2 123 yJ2_compress_5af95 ∈ lw_all := lw_in (List.mem_of_getElem? (i := 1385) (by decide +kernel)) (by decide +kernel)
theorem qt_J2_compress_5af95 : Cond.static yJ2_compress_5af95 ∈ lw_all := lw_in (List.mem_of_getElem? (i := 1386) (by decide +kernel)) (by decide +kernel)
theorem qc_J2_compress_5af95 : Cond.code yJ2_compress_5af95 cJ2_compress_5af95 7 (some .int) ∈ lw_all := lw_in (List.mem_of_getElem? (i := 1387) (by decide +kernel)) (by decide +kernel)
theorem q_J2_126 : Cond.methodLink RJ2 126 yJ7_copyOfRange_39247 ∈ lw_all := lw_in (List.mem_of_getElem? (i := 1388) (by decide +kernel)) (by decide +kernel)
theorem q_J0_47 : Cond.methodLink RJ0 47 yJ2_coderFromArrayLen_85cad ∈ lw_all := lw_in (List.mem_of_getElem? (i := 1389) (by decide +kernel)) (by decide +kernel)
theorem qt_J2_coderFromArrayLen_85cad : Cond.static yJ2_coderFromArrayLen_85cad ∈ lw_all := lw_in (List.mem_of_getElem? (i := 1390) (by decide +kernel)) (by decide +kernel)
theorem qc_J2_coderFromArrayLen_85cad : Cond.code yJ2_coderFromArrayLen_85cad cJ2_coderFromArrayLen_85cad 2 (some .byte) ∈ lw_all := lw_in (List.mem_of_getElem? (i := 1391) (by decide +kernel)) (by decide +kernel)
theorem qf_J0_9 : Cond.fieldLink RJ0 9 "java/lang/String" "value" "[B" ∈ lw_all := lw_in (List.mem_of_getElem? (i := 1392) (by decide +kernel)) (by decide +kernel)
theorem qf_J0_15 : Cond.fieldLink RJ0 15 "java/lang/String" "coder" "B" ∈ lw_all := lw_in (List.mem_of_getElem? (i := 1393) (by decide +kernel)) (by decide +kernel)
theorem q_L_274 : Cond.methodLink RL 274 yL_reads ∈ lw_all := lw_in (List.mem_of_getElem? (i := 1403) (by decide +kernel)) (by decide +kernel)
theorem qt_L_reads : Cond.static yL_reads ∈ lw_all := lw_in (List.mem_of_getElem? (i := 1404) (by decide +kernel)) (by decide +kernel)
theorem qc_L_reads : Cond.code yL_reads cL_reads 3 (some .int) ∈ lw_all := lw_in (List.mem_of_getElem? (i := 1405) (by decide +kernel)) (by decide +kernel)
theorem q_L_142 : Cond.methodLink RL 142 yJ0_length_8abf5 ∈ lw_all := lw_in (List.mem_of_getElem? (i := 1406) (by decide +kernel)) (by decide +kernel)
theorem q_L_147 : Cond.methodLink RL 147 yJ0_charAt_5068e ∈ lw_all := lw_in (List.mem_of_getElem? (i := 1407) (by decide +kernel)) (by decide +kernel)
theorem q_L_305 : Cond.methodLink RL 305 yL_refused ∈ lw_all := lw_in (List.mem_of_getElem? (i := 1408) (by decide +kernel)) (by decide +kernel)
theorem qt_L_refused : Cond.static yL_refused ∈ lw_all := lw_in (List.mem_of_getElem? (i := 1409) (by decide +kernel)) (by decide +kernel)
set_option maxRecDepth 100000 in
theorem qc_L_refused : Cond.code yL_refused cL_refused 8 (some .boolean) ∈ lw_all := lw_in (List.mem_append_right _ (List.mem_append_right _ (List.mem_append_right _ (List.mem_append_right _ (List.mem_append_right _ (List.mem_append_right _ (List.mem_of_getElem? (i := 181) rfl))))))) (by decide +kernel)
theorem q_L_313 : Cond.methodLink RL 313 Lib.Math.min.name ∈ lw_all := lw_in (List.mem_of_getElem? (i := 1413) (by decide +kernel)) (by decide +kernel)
theorem qa_long : Cond.arrayClass .long ∈ lw_all := lw_in (List.mem_of_getElem? (i := 1414) (by decide +kernel)) (by decide +kernel)
theorem in_X0 : ∀ w ∈ u_ws RX0 TX0 13, w ∈ lw_all := by
  have h : (u_ws RX0 TX0 13).all (fun w => decide (w ∈ lw_tbl) && goodWord w) = true := by decide +kernel
  intro w hw
  have h1 := List.all_eq_true.mp h w hw
  simp only [Bool.and_eq_true, decide_eq_true_eq] at h1
  exact lw_in h1.1 h1.2
theorem in_X1 : ∀ w ∈ u_ws RX1 TX1 3, w ∈ lw_all := by
  have h : (u_ws RX1 TX1 3).all (fun w => decide (w ∈ lw_tbl) && goodWord w) = true := by decide +kernel
  intro w hw
  have h1 := List.all_eq_true.mp h w hw
  simp only [Bool.and_eq_true, decide_eq_true_eq] at h1
  exact lw_in h1.1 h1.2
theorem in_X2 : ∀ w ∈ u_ws RX2 TX2 2, w ∈ lw_all := by
  have h : (u_ws RX2 TX2 2).all (fun w => decide (w ∈ lw_tbl) && goodWord w) = true := by decide +kernel
  intro w hw
  have h1 := List.all_eq_true.mp h w hw
  simp only [Bool.and_eq_true, decide_eq_true_eq] at h1
  exact lw_in h1.1 h1.2
theorem in_X3 : ∀ w ∈ u_ws RX3 TX3 2, w ∈ lw_all := by
  have h : (u_ws RX3 TX3 2).all (fun w => decide (w ∈ lw_tbl) && goodWord w) = true := by decide +kernel
  intro w hw
  have h1 := List.all_eq_true.mp h w hw
  simp only [Bool.and_eq_true, decide_eq_true_eq] at h1
  exact lw_in h1.1 h1.2
theorem in_X4 : ∀ w ∈ u_ws RX4 TX4 5, w ∈ lw_all := by
  have h : (u_ws RX4 TX4 5).all (fun w => decide (w ∈ lw_tbl) && goodWord w) = true := by decide +kernel
  intro w hw
  have h1 := List.all_eq_true.mp h w hw
  simp only [Bool.and_eq_true, decide_eq_true_eq] at h1
  exact lw_in h1.1 h1.2
theorem in_X5 : ∀ w ∈ u_ws RX5 TX5 12, w ∈ lw_all := by
  have h : (u_ws RX5 TX5 12).all (fun w => decide (w ∈ lw_tbl) && goodWord w) = true := by decide +kernel
  intro w hw
  have h1 := List.all_eq_true.mp h w hw
  simp only [Bool.and_eq_true, decide_eq_true_eq] at h1
  exact lw_in h1.1 h1.2
theorem in_J0 : ∀ w ∈ u_ws RJ0 TJ0 4, w ∈ lw_all := by
  have h : (u_ws RJ0 TJ0 4).all (fun w => decide (w ∈ lw_tbl) && goodWord w) = true := by decide +kernel
  intro w hw
  have h1 := List.all_eq_true.mp h w hw
  simp only [Bool.and_eq_true, decide_eq_true_eq] at h1
  exact lw_in h1.1 h1.2
theorem in_J4 : ∀ w ∈ u_ws RJ4 TJ4 4, w ∈ lw_all := by
  have h : (u_ws RJ4 TJ4 4).all (fun w => decide (w ∈ lw_tbl) && goodWord w) = true := by decide +kernel
  intro w hw
  have h1 := List.all_eq_true.mp h w hw
  simp only [Bool.and_eq_true, decide_eq_true_eq] at h1
  exact lw_in h1.1 h1.2
end
section
/-! the constants of the pools -/
theorem qk_L_185 : Cond.constantLong RL 185 31 ∈ lw_all := lw_in (List.mem_of_getElem? (i := 1008) (by decide +kernel)) (by decide +kernel)
theorem qk_L_131 : Cond.constantDouble RL 131 13875388141788987392 ∈ lw_all := lw_in (List.mem_of_getElem? (i := 1033) (by decide +kernel)) (by decide +kernel)
theorem qk_Jxe99ae_137 : Cond.constantLong RJxe99ae 137 9221120237041090560 ∈ lw_all := lw_in (List.mem_of_getElem? (i := 1043) (by decide +kernel)) (by decide +kernel)
theorem qk_L_126 : Cond.constantFloat RL 126 3296346112 ∈ lw_all := lw_in (List.mem_of_getElem? (i := 1051) (by decide +kernel)) (by decide +kernel)
theorem qk_Jxf58ca_77 : Cond.constant RJxf58ca 77 2143289344 ∈ lw_all := lw_in (List.mem_of_getElem? (i := 1061) (by decide +kernel)) (by decide +kernel)
theorem qk_J2_20 : Cond.constant RJ2 20 1073741823 ∈ lw_all := lw_in (List.mem_of_getElem? (i := 1203) (by decide +kernel)) (by decide +kernel)
theorem qk_J8_200 : Cond.constant RJ8 200 2147483639 ∈ lw_all := lw_in (List.mem_of_getElem? (i := 1241) (by decide +kernel)) (by decide +kernel)
theorem qk_J5_39 : Cond.constant RJ5 39 2147483647 ∈ lw_all := lw_in (List.mem_of_getElem? (i := 1245) (by decide +kernel)) (by decide +kernel)
end
