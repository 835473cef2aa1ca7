/-! the same, over what a walk has at hand -/
/-- bytes -/
def BtOk (n : Nat) (f : Nat → Int32) : Prop := ∀ j, j < n → fits .byte (.int (f j)) = true
theorem nar_fits (x : Int32) : fits .byte (.int (vp_nar .byte x)) = true := Jvm.Stand.fits_byte_narrow x
section SBZ
variable {p : Program} {l : Launch} {e : Env} {R : Room} {s : State} {m : MethodId} {args : Array Value} {below : List Frame} {meth : Method} {c : Code} {H : Heap} {locs : List Loc} {cells slots : Nat} {Q : State → Prop}
variable {cc : ByteArray} {pc nL : Nat} {ls : Array Slot} {rest st0 : List Value} {g : GC} {M : HM} {own : String} {mc ms : Nat} {S : Option Value → HM → Prop}
theorem k_ranO {a9 : Array Value} {f9 : JFrame} (hr : vx_Run p l e R s m args below meth c H locs cells slots mc ms f9 rest (KQo g S a9) KXn (gA g)) (hS : va_S (gA g) s.heap H locs)
    (kk : ∀ (v : Option Value) (M1 : HM) (H1 : Heap) (locs1 : List Loc), S v M1 → hR g M1 H1 → va_S (gA g) s.heap H1 locs1 → W p l e R s m args below meth c H1 locs1 (cells + mc) (slots + ms) Q { f9 with pc := f9.pc + 3, stack := v.toList ++ rest }) : W p l e R s m args below meth c H locs cells slots Q f9 := by
  intro T hT X
  rcases hr T hT X with ⟨v, st₀, t, T', L, h0, X', hL, e1, e2, ⟨v2, M1, hs, hv, hR1, hF⟩, st⟩ | ⟨q, st₀, t, T', L, E, ce, h0, X', hL, e1, e2, hx, -⟩
  · cases hv
    obtain ⟨-, -, k3⟩ := vx_keep (free := gA g) h0 e1 hS (fun _ _ h => h) (fun _ h => h) hL hF
    obtain ⟨t2, a1, b1⟩ := kk v M1 T'.heap (locs ++ L) hs (by rw [e1]; exact hR1) k3 T' rfl X'
    exact ⟨t2, st t2 a1, b1⟩
  · exact hx.elim
theorem Cx.backZ (hc : Cx g p l s m args meth c cc nL own) {d nLc : Nat} {y : MethodName} {bc : ByteArray} {r : Option FieldType} (h5 : Cond.code y bc nLc r ∈ lw_all) (h4 : Cond.initialized y.cls ∈ lw_all) (hroom : d + 1 ≤ R.frames ∧ 8 + (nLc + 11) + 60 * d ≤ R.locals) : BackOk R s args y bc nLc r (Cond.code y bc nLc r :: lw_all) (rmOf d mc ms) mc ms :=
  ⟨rfl, rfl, hroom.1, hroom.2, pay_in hc.2.2.2.2.1 (lw_gI h5), List.mem_cons_self, hc.2.2.2.2.1 _ h4⟩
/-- a call that its words select -/
theorem k_goZ (hc : Cx g p l s m args meth c cc nL own) {C : String} {TT : u_T} {N ci b index n d nLc : Nat} {y z : MethodName} {bc : ByteArray} {r : Option FieldType} (As : List Value) {fs : List Value} (hci : vwCl[ci]? = some (C, TT, N)) (hl9 : Cond.methodLink own index y ∈ lw_all) (hy : y.cls ≠ "java/lang/invoke/MethodHandle" ∧ y.cls ≠ "java/lang/invoke/VarHandle") (h5 : Cond.code z bc nLc r ∈ lw_all) (h4 : Cond.initialized z.cls ∈ lw_all)
    (hsel : (∀ cls mk, selectMethod e.platform s.vm cls mk = selectMethod {} s.vm cls mk) → ∀ cls, s.vm.findClass C = some cls → SelZ e s y z cls n) (hdg : decode cc pc = .ok (.invokevirtual index, 3))
    (hK : KMo g l z bc nLc r d mc ms (.ref b :: As) M S) (he : M b = some (.inr (ci, fs))) (hM : hR g M H) (hS : va_S (gA g) s.heap H locs) (hl : ls.size = nL) (hn : As.length = n) (hst : As.reverse ++ .ref b :: rest = st0) (hroom : d + 1 ≤ R.frames ∧ 8 + (nLc + 11) + 60 * d ≤ R.locals) (hf : cells + mc ≤ R.cells ∧ slots + ms ≤ R.slots) (hW : (rest.map fun v => v.category).sum ≤ 8)
    (kk : ∀ (v : Option Value) (M1 : HM) (H1 : Heap) (locs1 : List Loc), S v M1 → hR g M1 H1 → va_S (gA g) s.heap H1 locs1 → W p l e R s m args below meth c H1 locs1 (cells + mc) (slots + ms) Q (F0 m (pc + 3) ls (v.toList ++ rest))) : W p l e R s m args below meth c H locs cells slots Q (F0 m pc ls st0) := by
  subst hst
  obtain ⟨cell, r1, r2, r3⟩ := k_recv hc hM hci he
  have key : SelZ e s y z cell.cls n → W p l e R s m args below meth c H locs cells slots Q (F0 m pc ls (As.reverse ++ .ref b :: rest)) := fun hs =>
    k_ranO (vx_runZ (As := As) (rest := rest) ⟨hc.1, hc.2.1, hc.2.2.1, hc.2.2.2.1, hc.2.2.2.2.1⟩ hK (hc.backZ h5 h4 hroom) (hc.2.2.2.2.1 _ hl9) hy KP.blind r1 r2 hs (hc.pre hM hS) rfl hn hl rfl (by show 2 * 0 + _ ≤ 8; omega) hdg hf) hS kk
  intro T hT X
  exact key (hsel (fun cls mk => Launch.admits_selectMethod X.admits _ _ _) cell.cls r3) T hT X
/-- super's own -/
theorem k_goY (hc : Cx g p l s m args meth c cc nL own) {C : String} {TT : u_T} {N ci b index n d nLc : Nat} {y : MethodName} {bc : ByteArray} {r : Option FieldType} (As : List Value) {fs : List Value} (hci : vwCl[ci]? = some (C, TT, N)) (hl9 : Cond.methodLink own index y ∈ lw_all) (h5 : Cond.code y bc nLc r ∈ lw_all) (h4 : Cond.initialized y.cls ∈ lw_all)
    (hsup : ∀ cls, s.vm.findClass C = some cls → SupZ s m own index y cls args n) (hdg : decode cc pc = .ok (.invokespecial index, 3))
    (hK : KMo g l y bc nLc r d mc ms (.ref b :: As) M S) (he : M b = some (.inr (ci, fs))) (hM : hR g M H) (hS : va_S (gA g) s.heap H locs) (hl : ls.size = nL) (hn : As.length = n) (hst : As.reverse ++ .ref b :: rest = st0) (hroom : d + 1 ≤ R.frames ∧ 8 + (nLc + 11) + 60 * d ≤ R.locals) (hf : cells + mc ≤ R.cells ∧ slots + ms ≤ R.slots) (hW : (rest.map fun v => v.category).sum ≤ 8)
    (kk : ∀ (v : Option Value) (M1 : HM) (H1 : Heap) (locs1 : List Loc), S v M1 → hR g M1 H1 → va_S (gA g) s.heap H1 locs1 → W p l e R s m args below meth c H1 locs1 (cells + mc) (slots + ms) Q (F0 m (pc + 3) ls (v.toList ++ rest))) : W p l e R s m args below meth c H locs cells slots Q (F0 m pc ls st0) := by
  subst hst
  obtain ⟨cell, r1, r2, r3⟩ := k_recv hc hM hci he
  exact k_ranO (vx_runY (As := As) (rest := rest) ⟨hc.1, hc.2.1, hc.2.2.1, hc.2.2.2.1, hc.2.2.2.2.1⟩ hK (hc.backZ h5 h4 hroom) (hc.2.2.2.2.1 _ hl9) KP.blind r1 r2 (hsup _ r3) (hc.pre hM hS) rfl hn hl rfl (by show 2 * 0 + _ ≤ 8; omega) hdg hf) hS kk
/-- a static call, a constructor's -/
theorem k_goSo (hc : Cx g p l s m args meth c cc nL own) {index n d nLc : Nat} {y : MethodName} {bc : ByteArray} {r : Option FieldType} (As : List Value) (hw : CwS own index n y bc nLc r) (hdg : decode cc pc = .ok (.invokestatic index, 3))
    (hK : KMo g l y bc nLc r d mc ms As M S) (hM : hR g M H) (hS : va_S (gA g) s.heap H locs) (hl : ls.size = nL) (hn : As.length = n) (hst : As.reverse ++ rest = st0) (hroom : d + 1 ≤ R.frames ∧ 8 + (nLc + 11) + 60 * d ≤ R.locals) (hf : cells + mc ≤ R.cells ∧ slots + ms ≤ R.slots) (hW : (rest.map fun v => v.category).sum ≤ 8)
    (kk : ∀ (v : Option Value) (M1 : HM) (H1 : Heap) (locs1 : List Loc), S v M1 → hR g M1 H1 → va_S (gA g) s.heap H1 locs1 → W p l e R s m args below meth c H1 locs1 (cells + mc) (slots + ms) Q (F0 m (pc + 3) ls (v.toList ++ rest))) : W p l e R s m args below meth c H locs cells slots Q (F0 m pc ls st0) := by
  subst hst
  obtain ⟨w1, w2, w4, w5, w7, w8, w9⟩ := hw
  exact k_ranO (vx_runS (As := As) (rest := rest) ⟨hc.1, hc.2.1, hc.2.2.1, hc.2.2.2.1, hc.2.2.2.2.1⟩ hK (va_cwS n hc.2.2.2.2.1 (lw_gS w1 w2 w4 w5) rfl rfl rfl ⟨w7, w8, w9⟩ hroom) ⟨KP.blind, hc.pre hM hS⟩ rfl hn hl rfl (by show 2 * 0 + _ ≤ 8; omega) hdg hf) hS kk
theorem k_goIo (hc : Cx g p l s m args meth c cc nL own) {b index n d nLc : Nat} {y : MethodName} {bc : ByteArray} (As : List Value) (hw : CwI own index n y bc nLc) (hdg : decode cc pc = .ok (.invokespecial index, 3))
    (hK : KMo g l y bc nLc none d mc ms (.ref b :: As) M S) (hM : hR g M H) (hS : va_S (gA g) s.heap H locs) (hl : ls.size = nL) (hn : As.length = n) (hst : As.reverse ++ .ref b :: rest = st0) (hroom : d + 1 ≤ R.frames ∧ 8 + (nLc + 11) + 60 * d ≤ R.locals) (hf : cells + mc ≤ R.cells ∧ slots + ms ≤ R.slots) (hW : (rest.map fun v => v.category).sum ≤ 8)
    (kk : ∀ (v : Option Value) (M1 : HM) (H1 : Heap) (locs1 : List Loc), S v M1 → hR g M1 H1 → va_S (gA g) s.heap H1 locs1 → W p l e R s m args below meth c H1 locs1 (cells + mc) (slots + ms) Q (F0 m (pc + 3) ls (v.toList ++ rest))) : W p l e R s m args below meth c H locs cells slots Q (F0 m pc ls st0) := by
  subst hst
  obtain ⟨w1, w2, w4, w5, w6, w7, w8, w9⟩ := hw
  exact k_ranO (vx_runI (As := As) (rest := rest) ⟨hc.1, hc.2.1, hc.2.2.1, hc.2.2.2.1, hc.2.2.2.2.1⟩ hK ⟨⟨rfl, rfl, hroom.1, hroom.2, pay_in hc.2.2.2.2.1 (lw_gI w5), List.mem_cons_self, hc.2.2.2.2.1 _ w5, hc.2.2.2.2.1 _ w4, ⟨w7, w8⟩, (fun sig h => by rw [h] at w9; exact (Option.some.inj w9).symm), hc.2.2.2.2.1 _ w1⟩, w6, hc.2.2.2.2.1 _ w2⟩ ⟨KP.blind, hc.pre hM hS⟩ rfl hn hl rfl (by show 2 * 0 + _ ≤ 8; omega) hdg hf) hS kk
/-- ends -/
theorem k_oret (hc : Cx g p l s m args meth c cc nL own) (hr : meth.sig.returnType = some .int ∨ meth.sig.returnType = some .boolean) (hdg : decode cc pc = .ok (.ireturn, 1)) (hM : hR g M H) (hS : va_S (gA g) s.heap H locs) {v : Int32} (hn : ∀ ty, meth.sig.returnType = some ty → narrow ty (.int v) = .int v) (h1 : cells ≤ mc) (h2 : slots ≤ ms) (hres : S (some (.int v)) M) :
    W p l e R s m args below meth c H locs cells slots (vx_MQ below (KQo g S) KXn args s mc ms (gA g)) (F0 m pc ls [.int v]) := by
  rcases hr with hr | hr
  · exact vx_ret (W.widen h1 h2 (W.zret hc.1 hc.2.1 hr (hn _ hr) (fun t ht hW => ⟨_, M, hres, rfl, by rw [ht]; exact hM, hS.F ht⟩) hS.2.2 hdg hc.2.2.2.2.2.2.1))
  · exact vx_ret (W.widen h1 h2 (W.zret hc.1 hc.2.1 hr (hn _ hr) (fun t ht hW => ⟨_, M, hres, rfl, by rw [ht]; exact hM, hS.F ht⟩) hS.2.2 hdg hc.2.2.2.2.2.2.1))
theorem k_ovret (hc : Cx g p l s m args meth c cc nL own) (hr : meth.sig.returnType = none) (hdg : decode cc pc = .ok (.return_, 1)) (hM : hR g M H) (hS : va_S (gA g) s.heap H locs) (h1 : cells ≤ mc) (h2 : slots ≤ ms) (hres : S none M) :
    W p l e R s m args below meth c H locs cells slots (vx_MQ below (KQo g S) KXn args s mc ms (gA g)) (F0 m pc ls []) :=
  vx_ret (W.widen h1 h2 (W.vret hc.1 hc.2.1 hr (fun t ht hW => ⟨_, M, hres, rfl, by rw [ht]; exact hM, hS.F ht⟩) hS.2.2 hdg hc.2.2.2.2.2.2.1))
theorem k_oaret (hc : Cx g p l s m args meth c cc nL own) {ty : FieldType} (hty : (∃ C, ty = .object C) ∨ ∃ t, ty = .array t) (hr : meth.sig.returnType = some ty) (hdg : decode cc pc = .ok (.areturn, 1)) (hM : hR g M H) (hS : va_S (gA g) s.heap H locs) {a : Nat} (h1 : cells ≤ mc) (h2 : slots ≤ ms) (hres : S (some (.ref a)) M) :
    W p l e R s m args below meth c H locs cells slots (vx_MQ below (KQo g S) KXn args s mc ms (gA g)) (F0 m pc ls [.ref a]) :=
  vx_ret (W.widen h1 h2 (W.aret hc.1 hc.2.1 hr hty (Or.inr ⟨_, rfl⟩) (fun t ht hW => ⟨_, M, hres, rfl, by rw [ht]; exact hM, hS.F ht⟩) hS.2.2 hdg hc.2.2.2.2.2.2.1))
/-- byte arrays of the heap's picture -/
theorem k_alenB (hc : Cx g p l s m args meth c cc nL own) {a : Nat} (hM : hR g M H) {n : Nat} {f : Nat → Int32} (he : M a = some (.inl (gD g, n, .inl f))) (hdg : decode cc pc = .ok (.arraylength, 1))
    (kk : W p l e R s m args below meth c H locs cells slots Q (F0 m (pc + 1) ls (.int (nI n) :: rest))) : W p l e R s m args below meth c H locs cells slots Q (F0 m pc ls (.ref a :: rest)) :=
  va_alen hc.1 hc.2.1 hc.2.2.2.2.2.1.1 (hM.one he) 0 2 rfl rfl rfl hdg kk
theorem k_bald (hc : Cx g p l s m args meth c cc nL own) {a : Nat} (hM : hR g M H) {n : Nat} {f : Nat → Int32} (he : M a = some (.inl (gD g, n, .inl f))) {i : Int32} (hin : vp_in i n) (hdg : decode cc pc = .ok (.baload, 1))
    (kk : W p l e R s m args below meth c H locs cells slots Q (F0 m (pc + 1) ls (.int (f i.toNatClampNeg) :: rest))) : W p l e R s m args below meth c H locs cells slots Q (F0 m pc ls (.int i :: .ref a :: rest)) :=
  va_bald hc.1 hc.2.1 hc.2.2.2.2.2.1.1 (hM.one he) 0 2 rfl rfl hin hdg kk
theorem k_bast (hc : Cx g p l s m args meth c cc nL own) {a : Nat} (hM : hR g M H) (hS : va_S (gA g) s.heap H locs) {n : Nat} {f : Nat → Int32} (he : M a = some (.inl (gD g, n, .inl f))) {i x : Int32} (hin : vp_in i n) (hdg : decode cc pc = .ok (.bastore, 1))
    (kk : ∀ (H1 : Heap) (locs1 : List Loc) (f1 : Nat → Int32), (BtOk n f → BtOk n f1) → hR g (upM M a (.inl (gD g, n, .inl f1))) H1 → va_S (gA g) s.heap H1 locs1 → W p l e R s m args below meth c H1 locs1 cells slots Q (F0 m (pc + 1) ls rest)) : W p l e R s m args below meth c H locs cells slots Q (F0 m pc ls (.int x :: .int i :: .ref a :: rest)) := by
  have hK := hc.2.2.2.2.2.1.1
  refine W.bast hc.1 hc.2.1 (hM a _ he).2 ((hK.2 2 _ rfl).1 n (fun j => .int (f j))) (fun q => by cases q) (by show ¬ (i < 0 ∨ (arrV _ _ _).slots.size ≤ _); rw [arrV_size]; exact hin) rfl rfl hdg fun H1 e z oq => ?_
  refine kk H1 _ (upd f i.toNatClampNeg (vp_nar .byte x)) (fun hf j hj => by
    by_cases q : j = i.toNatClampNeg
    · subst q; rw [upd_at]; exact nar_fits x
    · rw [upd_ne q]; exact hf j hj) (hM.put (hM.low he) ?_ oq) (hS.put z oq (hM.low he))
  show H1[a]? = some (vp_cell _ _)
  rw [e]
  rw [vp_cell_i, vp_cell_i, arrV_store]
  congr 2
  funext q
  by_cases hq : q = i.toNatClampNeg
  · subst hq
    simp [updV, upd, vp_nar]
    try rfl
  · simp [updV, upd, hq]
/-- a cell or an array just made, wherever it lies -/
theorem k_newX (hc : Cx g p l s m args meth c cc nL own) {C : String} {T : u_T} {N ci index : Nat} (hin : ∀ w ∈ u_ws C T N, w ∈ lw_all) (ty : Nat → FieldType) (hty : ∀ k, k < N → parseFieldDescriptor (T k).2.2.1 = some (ty k)) (hci : vwCl[ci]? = some (C, T, N)) (hcl : Cond.classLink own index C ∈ lw_all) (hinst : Cond.instantiable C N ∈ lw_all) (hini : Cond.initialized C ∈ lw_all) {fs : List Value} (hfs : ∀ j, j < N → defaultValue (ty j) = vp_V fs j) (hdg : decode cc pc = .ok (.new index, 3))
    (hM : hR g M H) (hS : va_S (gA g) s.heap H locs) (hcells : cells + 1 ≤ R.cells) (hslots : slots + N ≤ R.slots)
    (kk : ∀ (q : Nat) (H1 : Heap), M q = none → hR g (upM M q (.inr (ci, fs))) H1 → va_S (gA g) s.heap H1 locs → W p l e R s m args below meth c H1 locs (cells + 1) (slots + N) Q (F0 m (pc + 3) ls (.ref q :: rest))) : W p l e R s m args below meth c H locs cells slots Q (F0 m pc ls rest) := by
  obtain ⟨hexec, hb, hml, hown, hts, hE, hlk, hst0⟩ := hc
  have hKn := hE.1.1 ci _ hci
  refine W.newcK hexec hb hown (hts _ hcl) (hts _ hinst) (hts _ hini) rfl hdg hcells hslots hKn.2.1 rfl fun H1 kC hkC e1 z1 o1 => ?_
  have hno : M H.size = none := by
    cases h : M H.size with
    | none => rfl
    | some e => exact absurd (hM.lt h) (by omega)
  exact kk H.size H1 hno (hM.push rfl (Nat.le_trans hE.2.1 hS.1) ⟨_, hci, (u_born ty hts (fun w h => hin w h) hKn hkC e1 hty).to hfs⟩ o1) ⟨Nat.le_trans hS.1 (by omega), fun x h1 h2 => (o1 x (by have := hS.1; omega)).trans (hS.2.1 x h1 h2), hS.2.2⟩
theorem k_newB (hc : Cx g p l s m args meth c cc nL own) {N' : Nat} {n : Int32} (hn : ¬ n < 0) (hN : n.toNatClampNeg = N') (hbytes : N' * 1 ≤ 536870912) (hdg : decode cc pc = .ok (.newarray .byte, 2))
    (hM : hR g M H) (hS : va_S (gA g) s.heap H locs) (hcells : cells + 1 ≤ R.cells) (hslots : slots + N' ≤ R.slots)
    (kk : ∀ (q : Nat) (H1 : Heap), M q = none → hR g (upM M q (.inl (gD g, N', .inl (fun _ => 0)))) H1 → va_S (gA g) s.heap H1 locs → W p l e R s m args below meth c H1 locs (cells + 1) (slots + N') Q (F0 m (pc + 2) ls (.ref q :: rest))) : W p l e R s m args below meth c H locs cells slots Q (F0 m pc ls (.int n :: rest)) := by
  obtain ⟨hexec, hb, hml, hown, hts, hE, hlk, hst0⟩ := hc
  have harr : Cond.arrayClass (newarray.typeOf .byte) ∈ lw_all := qa_byte
  refine va_newaK hexec hb (hts _ harr) rfl hdg rfl hn hN hbytes hcells hslots rfl fun H1 cB e1 z1 o1 hAr hNm => ?_
  have hcB : cB = gD g := Option.some.inj (hNm.symm.trans (hE.1.2 2 _ rfl).2)
  subst hcB
  have hno : M H.size = none := by
    cases h : M H.size with
    | none => rfl
    | some e => exact absurd (hM.lt h) (by omega)
  refine kk H.size H1 hno (hM.push rfl (Nat.le_trans hE.2.1 hS.1) ?_ o1) ⟨Nat.le_trans hS.1 (by omega), fun x h1 h2 => (o1 x (by have := hS.1; omega)).trans (hS.2.1 x h1 h2), hS.2.2⟩
  show H1[H.size]? = some (vp_cell _ _)
  rw [vp_cell_i]
  exact e1
end SBZ
