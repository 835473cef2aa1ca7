/-! METHODS WITH A TABLE OF CATCHES: their contracts, their calls -/
def KH (g : GC) (l : Launch) (y : MethodName) (b : ByteArray) (nL : Nat) (r : Option FieldType) (hh : List (Nat × Nat × Nat × Nat)) (d mc ms : Nat) (av : List Value) (M : HM) (res : Rs) : Prop :=
  vx_Met l y (Cond.codeWith y b nL r hh :: lw_all) (rmOf d mc ms) (KP g M av) (KQ g res) (KX g res) mc ms (gA g)
theorem k_methH {g : GC} {l : Launch} (hlf : l.stackTraces = false) {y : MethodName} {b : ByteArray} {nL : Nat} {r : Option FieldType} {hh : List (Nat × Nat × Nat × Nat)} {d mc ms : Nat} {av : List Value} {M : HM} {res : Rs} (hy : plainName y.cls = true) (hn : (lg_sl av).length ≤ nL)
    (body : ∀ (p : Program) (e : Env) (s : State) (m : MethodId) (below : List Frame) (meth : Method) (c : Code) (ls : Array Slot), Cx g p l s m av.toArray meth c b nL y.cls → meth.sig.returnType = r → c.exceptionTable.toList = tableOf hh → hR g M s.heap → va_S (gA g) s.heap s.heap [] → lv_has ls nL (lv_args 0 av) →
      W p l e (rmOf d mc ms) s m av.toArray below meth c s.heap [] 0 0 (vx_MQ below (KQ g res) (KX g res) av.toArray s mc ms (gA g)) (F0 m 0 ls [])) : KH g l y b nL r hh d mc ms av M res := by
  refine vx_ofWH hy rfl ?_
  intro p e s m args below meth c s₁ B hml hv
  obtain ⟨rfl, hM, hE⟩ := hv
  have hts0 := atoms_spec (ws := Cond.codeWith y b nL r hh :: lw_all) B.pre
  have hl := lv_entry av (n := nL) hn
  rw [lg_entry_eq]
  exact body p e s m below meth c _ ⟨B.exec, B.bytes, hml, findClass_of_methodNamed B.named, fun w hw => hts0 w (List.mem_cons_of_mem _ hw), hE, B.notSynchronized, hlf⟩ B.returns (vx_table (x := y) B (hts0 _ List.mem_cons_self)) hM va_S.rf hl
def CwSX (own : String) (index n : Nat) (y : MethodName) (b : ByteArray) (nLc : Nat) (r : Option FieldType) (hh : List (Nat × Nat × Nat × Nat)) : Prop :=
  Cond.methodLink own index y ∈ lw_all ∧ Cond.static y ∈ lw_all ∧ Cond.initialized y.cls ∈ lw_all ∧ Cond.codeWith y b nLc r hh ∈ lw_all ∧ y.cls ≠ "java/lang/invoke/MethodHandle" ∧ y.cls ≠ "java/lang/invoke/VarHandle" ∧ (parseMethodDescriptor y.desc).map (fun d => d.parameters.length) = some n
theorem lw_gSX {own : String} {index n : Nat} {y : MethodName} {b : ByteArray} {r : Option FieldType} {hh : List (Nat × Nat × Nat × Nat)} (h1 : Cond.methodLink own index y ∈ lw_all) (h2 : Cond.static y ∈ lw_all) (h4 : Cond.initialized y.cls ∈ lw_all) (h5 : Cond.codeWith y b n r hh ∈ lw_all) : GoodIn lw_all (va_wsS own index y (Cond.codeWith y b n r hh :: lw_all)) := by
  intro w hw
  have hm : w ∈ lw_all := by
    simp only [va_wsS, List.mem_append, List.mem_cons, List.not_mem_nil, or_false] at hw
    rcases hw with (rfl | rfl | rfl) | rfl | h
    all_goals assumption
  exact ⟨hm, lw_all_good hm⟩
section KHX
variable {p : Program} {l : Launch} {e : Env} {R : Room} {s : State} {m : MethodId} {args : Array Value} {below : List Frame} {meth : Method} {c : Code} {H : Heap} {locs : List Loc} {cells slots : Nat} {Q : State → Prop}
variable {cc : ByteArray} {pc nL : Nat} {ls : Array Slot} {rest st0 : List Value} {g : GC} {M M1 : HM} {own : String} {v : Value}
theorem k_SX1 (hc : Cx g p l s m args meth c cc nL own) {index n d mc ms nLc : Nat} {y : MethodName} {bc : ByteArray} {r : Option FieldType} {hh : List (Nat × Nat × Nat × Nat)} (As : List Value) (hw : CwSX own index n y bc nLc r hh) (hdg : decode cc pc = .ok (.invokestatic index, 3))
    (hK : KH g l y bc nLc r hh d mc ms As M (.inl (some v, M1))) (hM : hR g M H) (hS : va_S (gA g) s.heap H locs) (hl : ls.size = nL) (hn : As.length = n) (hst : As.reverse ++ rest = st0) (hroom : d + 1 ≤ R.frames ∧ 8 + (nLc + 11) + 60 * d ≤ R.locals) (hf : cells + mc ≤ R.cells ∧ slots + ms ≤ R.slots) (hW : (rest.map fun v => v.category).sum ≤ 8)
    (kk : ∀ (H1 : Heap) (locs1 : List Loc), hR g M1 H1 → va_S (gA g) s.heap H1 locs1 → W p l e R s m args below meth c H1 locs1 (cells + mc) (slots + ms) Q (F0 m (pc + 3) ls (v :: rest))) : W p l e R s m args below meth c H locs cells slots Q (F0 m pc ls st0) := by
  subst hst
  obtain ⟨w1, w2, w4, w5, w7, w8, w9⟩ := hw
  exact k_ran (vx_runSX (As := As) (rest := rest) ⟨hc.1, hc.2.1, hc.2.2.1, hc.2.2.2.1, hc.2.2.2.2.1⟩ hK (vx_cwSW n hc.2.2.2.2.1 (lw_gSX w1 w2 w4 w5) rfl rfl rfl ⟨w7, w8, w9⟩ hroom) ⟨KP.blind, hc.pre hM hS⟩ rfl hn hl rfl (by show 2 * 0 + _ ≤ 8; omega) hdg hf) hS (fun v2 M2 H1 locs1 hr hM1 hS1 => by cases hr; exact kk H1 locs1 hM1 hS1) (fun _ _ _ _ _ _ hr => by cases hr)
/-- caught by a row of this method's table -/
theorem k_catch (hc : Cx g p l s m args meth c cc nL own) {E : String} {ce : Cell} {q : Addr} (hcast : Cond.castable E E ∈ lw_nk) (pre : List ExceptionTableEntry) (x : ExceptionTableEntry) (suf : List ExceptionTableEntry) (hsplit : c.exceptionTable.toList = pre ++ x :: suf)
    (hpass : ∀ z ∈ pre, z.catchType ≠ 0 ∧ ∃ nm : String, Cond.classLink own z.catchType nm ∈ lw_all ∧ (E, nm) ∈ lw_nc) (hx : covers x pc = true) (h0 : x.catchType ≠ 0) (hlink : Cond.classLink own x.catchType E ∈ lw_all) (hcell : H[q]? = some ce) (hv : ce.vm = .none) (hcl : s.vm.findClass E = some ce.cls)
    (kk : W p l e R s m args below meth c H locs cells slots Q (F0 m x.handlerPc ls [.ref q])) : vx_W p l e R s m args below meth c H locs cells slots Q (F0 m pc ls rest) q := by
  obtain ⟨-, -, -, -, h3, -, -, -, -, -, h9, -⟩ := hc.2.2.2.2.2.1
  refine vx_catch hc.2.2.2.1 pre x suf hsplit (fun z hz => ?_) hx h0 (hc.2.2.2.2.1 _ hlink) (va_Nw.use ?_ (h3 _ hcast)) hcell hv hcl kk
  · obtain ⟨z1, nm, z2, z3⟩ := hpass z hz
    exact Or.inr ⟨z1, nm, hc.2.2.2.2.1 _ z2, h9 _ z3⟩
  · have : ∀ w ∈ lw_nk, w.onTables = true := by decide +kernel
    exact this _ hcast
end KHX
/-- what a method of the law answers: what the class answered, or -1001, -1002 by the row that caught -/
def xV (k : Nat) : Int32 := if k = 0 then -1001 else -1002
theorem es1 {a E : String} {k : Nat} (h : [a][k]? = some E) : k = 0 ∧ E = a := by
  cases k with
  | zero => exact ⟨rfl, (Option.some.inj h).symm⟩
  | succ k => cases h
theorem es2 {a b E : String} {k : Nat} (h : [a, b][k]? = some E) : (k = 0 ∧ E = a) ∨ (k = 1 ∧ E = b) := by
  cases k with
  | zero => exact Or.inl ⟨rfl, (Option.some.inj h).symm⟩
  | succ k =>
    cases k with
    | zero => exact Or.inr ⟨rfl, (Option.some.inj h).symm⟩
    | succ k => cases h
def hW (Es : List String) (res res2 : Rs) : Prop := (∃ (v : Value) (M1 : HM), res = .inl (some v, M1) ∧ res2 = .inl (some v, M1)) ∨ ∃ (k : Nat) (E : String) (M1 : HM), Es[k]? = some E ∧ res = .inr (E, M1) ∧ res2 = .inl (some (.int (xV k)), M1)
def hWf (Es : List String) (res res2 : Rs) : Prop := (∃ (v : Value) (M1 : HM), res = .inl (some v, M1) ∧ res2 = .inl (some v, M1)) ∨ ∃ (E : String) (M1 : HM), Es[0]? = some E ∧ res = .inr (E, M1) ∧ res2 = .inl (some (.float 3296346112), M1)
def hWd (Es : List String) (res res2 : Rs) : Prop := (∃ (v : Value) (M1 : HM), res = .inl (some v, M1) ∧ res2 = .inl (some v, M1)) ∨ ∃ (E : String) (M1 : HM), Es[0]? = some E ∧ res = .inr (E, M1) ∧ res2 = .inl (some (.double 13875388141788987392), M1)
theorem hW_s {Es : List String} {g : GC} {M : HM} {x : Nat} {c : Prop} [Decidable c] {A B : Rs} {a b : Int32} {s1 s2 : CS} (h1 : c → hW Es A (.inl (some (.int a), putC g M x s1))) (h2 : ¬ c → hW Es B (.inl (some (.int b), putC g M x s2))) : hW Es (if c then A else B) (.inl (some (.int (if c then a else b)), putC g M x (if c then s1 else s2))) := by
  by_cases h : c
  · rw [if_pos h, if_pos h, if_pos h]; exact h1 h
  · rw [if_neg h, if_neg h, if_neg h]; exact h2 h
theorem hW_q {Es : List String} {M : HM} {c : Prop} [Decidable c] {A B : Rs} {a b : Int32} (h1 : c → hW Es A (.inl (some (.int a), M))) (h2 : ¬ c → hW Es B (.inl (some (.int b), M))) : hW Es (if c then A else B) (.inl (some (.int (if c then a else b)), M)) := by
  by_cases h : c
  · rw [if_pos h, if_pos h]; exact h1 h
  · rw [if_neg h, if_neg h]; exact h2 h
theorem hWf_q {Es : List String} {M : HM} {c : Prop} [Decidable c] {A B : Rs} {a b : UInt32} (h1 : c → hWf Es A (.inl (some (.float a), M))) (h2 : ¬ c → hWf Es B (.inl (some (.float b), M))) : hWf Es (if c then A else B) (.inl (some (.float (if c then a else b)), M)) := by
  by_cases h : c
  · rw [if_pos h, if_pos h]; exact h1 h
  · rw [if_neg h, if_neg h]; exact h2 h
theorem hWd_q {Es : List String} {M : HM} {c : Prop} [Decidable c] {A B : Rs} {a b : UInt64} (h1 : c → hWd Es A (.inl (some (.double a), M))) (h2 : ¬ c → hWd Es B (.inl (some (.double b), M))) : hWd Es (if c then A else B) (.inl (some (.double (if c then a else b)), M)) := by
  by_cases h : c
  · rw [if_pos h, if_pos h]; exact h1 h
  · rw [if_neg h, if_neg h]; exact h2 h
theorem hW_ok {Es : List String} {v : Value} {M : HM} : hW Es (.inl (some v, M)) (.inl (some v, M)) := Or.inl ⟨_, _, rfl, rfl⟩
theorem hW_x0 {Es : List String} {E : String} {M : HM} (h : Es[0]? = some E) : hW Es (.inr (E, M)) (.inl (some (.int (-1001)), M)) := Or.inr ⟨0, E, M, h, rfl, rfl⟩
theorem hW_x1 {Es : List String} {E : String} {M : HM} (h : Es[1]? = some E) : hW Es (.inr (E, M)) (.inl (some (.int (-1002)), M)) := Or.inr ⟨1, E, M, h, rfl, rfl⟩
theorem cw_L_172 : CwSX RL 172 2 yL_stake cL_stake 3 (some .int) [(0, 5, 6, 13)] := ⟨q_L_172, qt_L_stake, qn_L, qw_L_stake, by decide, by decide, by decide +kernel⟩
theorem cw_L_174 : CwSX RL 174 3 yL_post cL_post 4 (some .int) [(0, 6, 7, 13)] := ⟨q_L_174, qt_L_post, qn_L, qw_L_post, by decide, by decide, by decide +kernel⟩
theorem cw_L_177 : CwSX RL 177 1 yL_sheet cL_sheet 2 (some .int) [(0, 4, 5, 13)] := ⟨q_L_177, qt_L_sheet, qn_L, qw_L_sheet, by decide, by decide, by decide +kernel⟩
theorem cw_L_181 : CwSX RL 181 2 yL_heat cL_heat 3 (some .int) [(0, 5, 6, 13)] := ⟨q_L_181, qt_L_heat, qn_L, qw_L_heat, by decide, by decide, by decide +kernel⟩
theorem cw_L_234 : CwSX RL 234 4 yL_sight cL_sight 5 (some .int) [(0, 7, 8, 13)] := ⟨q_L_234, qt_L_sight, qn_L, qw_L_sight, by decide, by decide, by decide +kernel⟩
theorem cw_L_179 : CwSX RL 179 2 yL_camel cL_camel 3 (some .int) [(0, 5, 6, 13)] := ⟨q_L_179, qt_L_camel, qn_L, qw_L_camel, by decide, by decide, by decide +kernel⟩
theorem cw_L_239 : CwSX RL 239 2 yL_bell cL_bell 3 (some .int) [(0, 5, 6, 13)] := ⟨q_L_239, qt_L_bell, qn_L, qw_L_bell, by decide, by decide, by decide +kernel⟩
theorem cw_L_241 : CwSX RL 241 2 yL_tie cL_tie 3 (some .int) [(0, 5, 6, 13)] := ⟨q_L_241, qt_L_tie, qn_L, qw_L_tie, by decide, by decide, by decide +kernel⟩
theorem cw_L_243 : CwSX RL 243 2 yL_loose cL_loose 3 (some .int) [(0, 5, 6, 13)] := ⟨q_L_243, qt_L_loose, qn_L, qw_L_loose, by decide, by decide, by decide +kernel⟩
theorem cw_L_245 : CwSX RL 245 2 yL_drink cL_drink 3 (some .int) [(0, 5, 6, 13)] := ⟨q_L_245, qt_L_drink, qn_L, qw_L_drink, by decide, by decide, by decide +kernel⟩
theorem cw_L_247 : CwSX RL 247 2 yL_water cL_water 3 (some .int) [(0, 5, 6, 13)] := ⟨q_L_247, qt_L_water, qn_L, qw_L_water, by decide, by decide, by decide +kernel⟩
theorem cw_L_183 : CwSX RL 183 2 yL_hours cL_hours 3 (some .int) [(0, 5, 6, 13)] := ⟨q_L_183, qt_L_hours, qn_L, qw_L_hours, by decide, by decide, by decide +kernel⟩
theorem cw_L_224 : CwSX RL 224 3 yL_camelOf cL_camelOf 4 (some .int) [(0, 6, 7, 57), (0, 6, 12, 66)] := ⟨q_L_224, qt_L_camelOf, qn_L, qw_L_camelOf, by decide, by decide, by decide +kernel⟩
theorem cw_L_213 : CwSX RL 213 3 yL_seems cL_seems 4 (some .int) [(0, 6, 7, 57)] := ⟨q_L_213, qt_L_seems, qn_L, qw_L_seems, by decide, by decide, by decide +kernel⟩
theorem cw_L_217 : CwSX RL 217 3 yL_shimmers cL_shimmers 4 (some .int) [(0, 14, 15, 57)] := ⟨q_L_217, qt_L_shimmers, qn_L, qw_L_shimmers, by decide, by decide, by decide +kernel⟩
theorem cw_L_209 : CwSX RL 209 2 yL_bestPost cL_bestPost 3 (some .int) [(0, 5, 6, 57), (0, 5, 11, 71)] := ⟨q_L_209, qt_L_bestPost, qn_L, qw_L_bestPost, by decide, by decide, by decide +kernel⟩
theorem cw_L_226 : CwSX RL 226 2 yL_lostIn cL_lostIn 3 (some .int) [(0, 5, 6, 57), (0, 5, 11, 71)] := ⟨q_L_226, qt_L_lostIn, qn_L, qw_L_lostIn, by decide, by decide, by decide +kernel⟩
theorem cw_L_232 : CwSX RL 232 2 yL_nearest cL_nearest 3 (some .int) [(0, 5, 6, 66), (0, 5, 11, 71)] := ⟨q_L_232, qt_L_nearest, qn_L, qw_L_nearest, by decide, by decide, by decide +kernel⟩
theorem cw_L_150 : CwSX RL 150 2 yL_append cL_append 3 (some .int) [(0, 5, 6, 105)] := ⟨q_L_150, qt_L_append, qn_L, qw_L_append, by decide, by decide, by decide +kernel⟩
theorem cw_L_155 : CwSX RL 155 1 yL_commands cL_commands 2 (some .int) [(0, 4, 5, 66), (0, 4, 10, 13)] := ⟨q_L_155, qt_L_commands, qn_L, qw_L_commands, by decide, by decide, by decide +kernel⟩
theorem cw_L_158 : CwSX RL 158 2 yL_reason cL_reason 3 (some .int) [(0, 5, 6, 66), (0, 5, 11, 71)] := ⟨q_L_158, qt_L_reason, qn_L, qw_L_reason, by decide, by decide, by decide +kernel⟩
theorem cw_L_205 : CwSX RL 205 2 yL_account cL_account 3 (some .int) [(0, 5, 6, 66)] := ⟨q_L_205, qt_L_account, qn_L, qw_L_account, by decide, by decide, by decide +kernel⟩
theorem cw_L_294 : CwSX RL 294 1 yL_undo cL_undo 2 (some .int) [(0, 4, 5, 105)] := ⟨q_L_294, qt_L_undo, qn_L, qw_L_undo, by decide, by decide, by decide +kernel⟩
theorem cw_L_296 : CwSX RL 296 1 yL_restore cL_restore 2 (some .int) [(0, 4, 5, 105)] := ⟨q_L_296, qt_L_restore, qn_L, qw_L_restore, by decide, by decide, by decide +kernel⟩
theorem cw_L_187 : CwSX RL 187 1 yL_rightShare cL_rightShare 2 (some .double) [(0, 4, 5, 124)] := ⟨q_L_187, qt_L_rightShare, qn_L, qw_L_rightShare, by decide, by decide, by decide +kernel⟩
theorem cw_L_196 : CwSX RL 196 1 yL_meanThirst cL_meanThirst 2 (some .float) [(0, 4, 5, 124)] := ⟨q_L_196, qt_L_meanThirst, qn_L, qw_L_meanThirst, by decide, by decide, by decide +kernel⟩
theorem cw_L_207 : CwSX RL 207 2 yL_stakeAt cL_stakeAt 3 (some .int) [(0, 5, 6, 57)] := ⟨q_L_207, qt_L_stakeAt, qn_L, qw_L_stakeAt, by decide, by decide, by decide +kernel⟩
theorem cw_L_211 : CwSX RL 211 3 yL_drawnAt cL_drawnAt 4 (some .int) [(0, 6, 7, 57), (0, 6, 12, 71)] := ⟨q_L_211, qt_L_drawnAt, qn_L, qw_L_drawnAt, by decide, by decide, by decide +kernel⟩
theorem cw_L_215 : CwSX RL 215 3 yL_seemsAgain cL_seemsAgain 4 (some .int) [(0, 6, 7, 57)] := ⟨q_L_215, qt_L_seemsAgain, qn_L, qw_L_seemsAgain, by decide, by decide, by decide +kernel⟩
theorem cw_L_219 : CwSX RL 219 3 yL_clearIn cL_clearIn 4 (some .int) [(0, 6, 7, 57), (0, 6, 12, 71)] := ⟨q_L_219, qt_L_clearIn, qn_L, qw_L_clearIn, by decide, by decide, by decide +kernel⟩
theorem cw_L_221 : CwSX RL 221 3 yL_postOf cL_postOf 4 (some .int) [(0, 6, 7, 57)] := ⟨q_L_221, qt_L_postOf, qn_L, qw_L_postOf, by decide, by decide, by decide +kernel⟩
theorem cw_L_228 : CwSX RL 228 2 yL_wrongBy cL_wrongBy 3 (some .int) [(0, 5, 6, 57)] := ⟨q_L_228, qt_L_wrongBy, qn_L, qw_L_wrongBy, by decide, by decide, by decide +kernel⟩
theorem cw_L_161 : CwSX RL 161 2 yL_line cL_line 3 (some .int) [(0, 5, 6, 57)] := ⟨q_L_161, qt_L_line, qn_L, qw_L_line, by decide, by decide, by decide +kernel⟩
theorem cw_L_163 : CwSX RL 163 2 yL_character cL_character 3 (some .int) [(0, 5, 6, 57)] := ⟨q_L_163, qt_L_character, qn_L, qw_L_character, by decide, by decide, by decide +kernel⟩
theorem cw_L_230 : CwSX RL 230 2 yL_heatIn cL_heatIn 3 (some .int) [(0, 5, 6, 66)] := ⟨q_L_230, qt_L_heatIn, qn_L, qw_L_heatIn, by decide, by decide, by decide +kernel⟩
theorem cw_L_237 : CwSX RL 237 3 yL_erase cL_erase 4 (some .int) [(0, 6, 7, 13)] := ⟨q_L_237, qt_L_erase, qn_L, qw_L_erase, by decide, by decide, by decide +kernel⟩
theorem bI_01 {c : Prop} [Decidable c] : bI c = 0 ∨ bI c = 1 := by
  by_cases h : c
  · exact Or.inr (bI_t h)
  · exact Or.inl (bI_f h)
