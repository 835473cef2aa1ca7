/-! ROWS OVER THE FUNCTIONAL HEAP: what is made, called, returned, thrown -/
theorem hR.push {g : GC} {M : HM} {H H1 : Heap} (h : hR g M H) {e : va_E} {q : Nat} (hq : H.size = q) (hb : gB g ≤ q) (he : va_at g.1 vwCl (q, e) H1) (oq : ∀ x : Nat, x < q → H1[x]? = H[x]?) : hR g (upM M q e) H1 := by
  intro x e' hx
  by_cases hxa : x = q
  · subst hxa
    rw [upM_at] at hx
    cases hx
    exact ⟨hb, he⟩
  · rw [upM_ne hxa] at hx
    exact ⟨h.low hx, (h x e' hx).2.kept (oq x (by rw [← hq]; exact h.lt hx))⟩
theorem hR.grow {g : GC} {M : HM} {H H1 : Heap} (h : hR g M H) (oq : ∀ x : Nat, x < H.size → H1[x]? = H[x]?) : hR g M H1 := fun x e hx => ⟨h.low hx, (h x e hx).2.kept (oq x (h.lt hx))⟩
theorem hR.congr {g : GC} {M M' : HM} {H : Heap} (h : hR g M H) (e : ∀ q, M' q = M q) : hR g M' H := fun q x hq => h q x (by rw [← e]; exact hq)
/-- an int or char array's values behind its end don't count -/
theorem vp_cell_ext {cA : ClassId} {n : Nat} {f f' : Nat → Int32} (h : ∀ k, k < n → f k = f' k) : vp_cell cA (n, .inl f) = vp_cell cA (n, .inl f') := by
  rw [vp_cell_i, vp_cell_i]
  unfold arrV
  congr 2
  funext j
  show Value.int (f j.val) = Value.int (f' j.val)
  rw [h j.val j.isLt]
theorem hR.ext {g : GC} {M : HM} {H : Heap} (h : hR g M H) {a n : Nat} {cA : ClassId} {f f' : Nat → Int32} (ha : M a = some (.inl (cA, n, .inl f))) (hf : ∀ k, k < n → f k = f' k) : hR g (upM M a (.inl (cA, n, .inl f'))) H := by
  refine h.put (h.low ha) ?_ (fun _ _ => rfl)
  have h1 : H[a]? = some (vp_cell cA (n, .inl f)) := (h a _ ha).2
  rw [vp_cell_ext hf] at h1
  exact h1
section KR2
variable {p : Program} {l : Launch} {e : Env} {R : Room} {s : State} {m : MethodId} {args : Array Value} {below : List Frame} {meth : Method} {c : Code} {H : Heap} {locs : List Loc} {cells slots : Nat} {Q : State → Prop}
variable {cc : ByteArray} {pc nL : Nat} {ls : Array Slot} {rest : List Value} {g : GC} {M : HM} {own : String} {a : Nat}
theorem k_size {fr : JFrame} (k : H.size ≤ s.heap.size + cells → W p l e R s m args below meth c H locs cells slots Q fr) : W p l e R s m args below meth c H locs cells slots Q fr :=
  fun T hT X => k (by rw [← hT]; exact X.same.2.2.1) T hT X
theorem k_new (hc : Cx g p l s m args meth c cc nL own) {C : String} {T : u_T} {N ci index : Nat} (hin : ∀ w ∈ u_ws C T N, w ∈ lw_all) (ty : Nat → FieldType) (hty : ∀ k, k < N → parseFieldDescriptor (T k).2.2.1 = some (ty k)) (hci : vwCl[ci]? = some (C, T, N)) (hcl : Cond.classLink own index C ∈ lw_all) (hinst : Cond.instantiable C N ∈ lw_all) (hini : Cond.initialized C ∈ lw_all) {fs : List Value} (hfs : ∀ j, j < N → defaultValue (ty j) = vp_V fs j) (hdg : decode cc pc = .ok (.new index, 3))
    (hM : hR g M H) (hS : va_S (gA g) s.heap H locs) {q : Nat} (hq : s.heap.size + cells = q) (hlow : q ≤ H.size) (hcells : cells + 1 ≤ R.cells) (hslots : slots + N ≤ R.slots)
    (kk : ∀ H1 : Heap, hR g (upM M q (.inr (ci, fs))) H1 → va_S (gA g) s.heap H1 locs → W p l e R s m args below meth c H1 locs (cells + 1) (slots + N) Q (F0 m (pc + 3) ls (.ref q :: rest))) : W p l e R s m args below meth c H locs cells slots Q (F0 m pc ls rest) := by
  refine k_size fun hz => ?_
  have hHq : H.size = q := by omega
  obtain ⟨hexec, hb, hml, hown, hts, hE, hlk, hst0⟩ := hc
  have hKn := hE.1.1 ci _ hci
  refine W.newcK hexec hb hown (hts _ hcl) (hts _ hinst) (hts _ hini) rfl hdg hcells hslots hKn.2.1 hHq fun H1 kC hkC e1 z1 o1 => ?_
  refine kk H1 (hM.push hHq (by rw [← hHq]; exact Nat.le_trans hE.2.1 hS.1) ⟨_, hci, (u_born ty hts (fun w h => hin w h) hKn hkC e1 hty).to hfs⟩ o1) ⟨Nat.le_trans hS.1 (by omega), fun x h1 h2 => (o1 x (by have := hS.1; omega)).trans (hS.2.1 x h1 h2), hS.2.2⟩
theorem k_newa (hc : Cx g p l s m args meth c cc nL own) {atype : ArrayType} {ty : FieldType} (hty : newarray.typeOf atype = ty) (harr : Cond.arrayClass ty ∈ lw_all) (t0 : Nat) {cA : ClassId} (ht : (gT g)[t0]? = some (cA, ty)) (hnm : ∀ U cB, va_RA U cB ty → U.vm.findClass ("[" ++ ty.toString) = some cB) {a0 : vp_A} {N' : Nat} (ha : ∀ cA : ClassId, vp_cell cA a0 = arrV cA N' (fun _ => defaultValue ty))
    {n : Int32} (hn : ¬ n < 0) (hN : n.toNatClampNeg = N') (hbytes : N' * componentBytes ty ≤ 536870912) (hdg : decode cc pc = .ok (.newarray atype, 2))
    (hM : hR g M H) (hS : va_S (gA g) s.heap H locs) {q : Nat} (hq : s.heap.size + cells = q) (hlow : q ≤ H.size) (hcells : cells + 1 ≤ R.cells) (hslots : slots + N' ≤ R.slots)
    (kk : ∀ H1 : Heap, hR g (upM M q (.inl (cA, a0))) H1 → va_S (gA g) s.heap H1 locs → W p l e R s m args below meth c H1 locs (cells + 1) (slots + N') Q (F0 m (pc + 2) ls (.ref q :: rest))) : W p l e R s m args below meth c H locs cells slots Q (F0 m pc ls (.int n :: rest)) := by
  refine k_size fun hz => ?_
  have hHq : H.size = q := by omega
  subst hty
  obtain ⟨hexec, hb, hml, hown, hts, hE, hlk, hst0⟩ := hc
  refine va_newaK hexec hb (hts _ harr) rfl hdg rfl hn hN hbytes hcells hslots hHq fun H1 cB e1 z1 o1 hAr hNm => ?_
  have hcB : cB = cA := Option.some.inj (hNm.symm.trans (hnm s cA (hE.1.2 t0 _ ht).2))
  subst hcB
  refine kk H1 (hM.push hHq (by rw [← hHq]; exact Nat.le_trans hE.2.1 hS.1) ?_ o1) ⟨Nat.le_trans hS.1 (by omega), fun x h1 h2 => (o1 x (by have := hS.1; omega)).trans (hS.2.1 x h1 h2), hS.2.2⟩
  show H1[q]? = some (vp_cell _ _)
  rw [ha]
  exact e1
theorem k_newaI (hc : Cx g p l s m args meth c cc nL own) {N' : Nat} {n : Int32} (hn : ¬ n < 0) (hN : n.toNatClampNeg = N') (hbytes : N' * 4 ≤ 536870912) (hdg : decode cc pc = .ok (.newarray .int, 2))
    (hM : hR g M H) (hS : va_S (gA g) s.heap H locs) {q : Nat} (hq : s.heap.size + cells = q) (hlow : q ≤ H.size) (hcells : cells + 1 ≤ R.cells) (hslots : slots + N' ≤ R.slots)
    (kk : ∀ H1 : Heap, hR g (upM M q (.inl (gI g, N', .inl (fun _ => 0)))) H1 → va_S (gA g) s.heap H1 locs → W p l e R s m args below meth c H1 locs (cells + 1) (slots + N') Q (F0 m (pc + 2) ls (.ref q :: rest))) : W p l e R s m args below meth c H locs cells slots Q (F0 m pc ls (.int n :: rest)) :=
  k_newa hc (ty := .int) rfl qa_int 0 rfl (fun U cB h => h) (a0 := (N', .inl (fun _ => 0))) (fun cA => vp_cell_i ..) hn hN hbytes hdg hM hS hq hlow hcells hslots kk
theorem k_newaC (hc : Cx g p l s m args meth c cc nL own) {N' : Nat} {n : Int32} (hn : ¬ n < 0) (hN : n.toNatClampNeg = N') (hbytes : N' * 2 ≤ 536870912) (hdg : decode cc pc = .ok (.newarray .char, 2))
    (hM : hR g M H) (hS : va_S (gA g) s.heap H locs) {q : Nat} (hq : s.heap.size + cells = q) (hlow : q ≤ H.size) (hcells : cells + 1 ≤ R.cells) (hslots : slots + N' ≤ R.slots)
    (kk : ∀ H1 : Heap, hR g (upM M q (.inl (gC g, N', .inl (fun _ => 0)))) H1 → va_S (gA g) s.heap H1 locs → W p l e R s m args below meth c H1 locs (cells + 1) (slots + N') Q (F0 m (pc + 2) ls (.ref q :: rest))) : W p l e R s m args below meth c H locs cells slots Q (F0 m pc ls (.int n :: rest)) :=
  k_newa hc (ty := .char) rfl qa_char 3 rfl (fun U cB h => h) (a0 := (N', .inl (fun _ => 0))) (fun cA => vp_cell_i ..) hn hN hbytes hdg hM hS hq hlow hcells hslots kk
theorem k_newaJ (hc : Cx g p l s m args meth c cc nL own) {N' : Nat} {n : Int32} (hn : ¬ n < 0) (hN : n.toNatClampNeg = N') (hbytes : N' * 8 ≤ 536870912) (hdg : decode cc pc = .ok (.newarray .long, 2))
    (hM : hR g M H) (hS : va_S (gA g) s.heap H locs) {q : Nat} (hq : s.heap.size + cells = q) (hlow : q ≤ H.size) (hcells : cells + 1 ≤ R.cells) (hslots : slots + N' ≤ R.slots)
    (kk : ∀ H1 : Heap, hR g (upM M q (.inl (gJ g, N', .inr (.inl (fun _ => 0))))) H1 → va_S (gA g) s.heap H1 locs → W p l e R s m args below meth c H1 locs (cells + 1) (slots + N') Q (F0 m (pc + 2) ls (.ref q :: rest))) : W p l e R s m args below meth c H locs cells slots Q (F0 m pc ls (.int n :: rest)) :=
  k_newa hc (ty := .long) rfl qa_long 1 rfl (fun U cB h => h) (a0 := (N', .inr (.inl (fun _ => 0)))) (fun cA => vp_cell_l ..) hn hN hbytes hdg hM hS hq hlow hcells hslots kk
theorem k_newq (hc : Cx g p l s m args meth c cc nL own) {index : Nat} (hcl : Cond.classLink own index RX0 ∈ lw_all) {N' : Nat} {n : Int32} (hn : ¬ n < 0) (hN : n.toNatClampNeg = N') (hbytes : N' * 4 ≤ 536870912) (hdg : decode cc pc = .ok (.anewarray index, 3))
    (hM : hR g M H) (hS : va_S (gA g) s.heap H locs) {q : Nat} (hq : s.heap.size + cells = q) (hlow : q ≤ H.size) (hcells : cells + 1 ≤ R.cells) (hslots : slots + N' ≤ R.slots)
    (kk : ∀ H1 : Heap, hR g (upM M q (.inl (gF g, N', .inr (.inr (.inr (.inr (fun _ => none))))))) H1 → va_S (gA g) s.heap H1 locs → W p l e R s m args below meth c H1 locs (cells + 1) (slots + N') Q (F0 m (pc + 3) ls (.ref q :: rest))) : W p l e R s m args below meth c H locs cells slots Q (F0 m pc ls (.int n :: rest)) := by
  refine k_size fun hz => ?_
  have hHq : H.size = q := by omega
  subst hN
  obtain ⟨hexec, hb, hml, hown, hts, hE, hlk, hst0⟩ := hc
  refine W.anew hexec hb hown (hts _ hcl) (va_AO.use hE.2.2.2.2.2.2.2.1) rfl hdg rfl hn hbytes hcells hslots fun cA kA comp f1 f2 f3 f4 => ?_
  obtain ⟨-, -, -, -, -, h4⟩ := (hE.1.2 4 _ rfl).2
  have hcB : cA = gF g := Option.some.inj (f1.symm.trans h4)
  subst hcB
  generalize hH1 : H.push ({ cls := gF g, slots := Array.replicate n.toNatClampNeg .null, vm := .none } : Cell) = H1
  have z1 : H1.size = H.size + 1 := by rw [← hH1, Array.size_push]
  have e1 : H1[H.size]? = some (arrV (gF g) n.toNatClampNeg (fun _ => .null)) := by rw [← hH1, Array.getElem?_push_size, ← arrV_new]
  have o1 : ∀ q : Nat, q < H.size → H1[q]? = H[q]? := fun q hq => by rw [← hH1, Array.getElem?_push, if_neg (Nat.ne_of_lt hq)]
  subst hHq
  refine kk H1 (hM.push rfl (Nat.le_trans hE.2.1 hS.1) ?_ o1) ⟨Nat.le_trans hS.1 (by omega), fun x h1 h2 => (o1 x (by have := hS.1; omega)).trans (hS.2.1 x h1 h2), hS.2.2⟩
  show H1[H.size]? = some (vp_cell _ _)
  rw [vp_cell_q]
  exact e1
/-- a call's end: it returned, or it threw -/
theorem k_ran {mc ms : Nat} {st0 : List Value} {ag : Array Value} {res : Rs} (hr : vx_Run p l e R s m args below meth c H locs cells slots mc ms (F0 m pc ls st0) rest (KQ g res ag) (KX g res) (gA g)) (hS : va_S (gA g) s.heap H locs)
    (kk : ∀ (v : Option Value) (M1 : HM) (H1 : Heap) (locs1 : List Loc), res = .inl (v, M1) → hR g M1 H1 → va_S (gA g) s.heap H1 locs1 → W p l e R s m args below meth c H1 locs1 (cells + mc) (slots + ms) Q (F0 m (pc + 3) ls (v.toList ++ rest)))
    (kx : ∀ (E : String) (M1 : HM) (H1 : Heap) (locs1 : List Loc) (q9 : Addr) (ce : Cell), res = .inr (E, M1) → hR g M1 H1 → va_S (gA g) s.heap H1 locs1 → H1[q9]? = some ce → ce.vm = .none → s.vm.findClass E = some ce.cls → vx_W p l e R s m args below meth c H1 locs1 (cells + mc) (slots + ms) Q (F0 m pc ls rest) q9) :
    W p l e R s m args below meth c H locs cells slots Q (F0 m pc ls st0) := by
  intro T hT X
  rcases hr T hT X with ⟨v, st₀, t, T', L, h0, X', hL, e1, e2, ⟨v2, M1, hres, hv, hR1, hF⟩, st⟩ | ⟨q, st₀, t, T', L, E, ce, h0, X', hL, e1, e2, ⟨M1, hres, hR1, hF⟩, hce, hcv, hcl, st⟩
  · cases hv
    obtain ⟨-, -, k3⟩ := vx_keep (free := gA g) h0 e1 hS (fun _ _ h => h) (fun _ h => h) hL hF
    obtain ⟨t2, a1, b1⟩ := kk v M1 T'.heap (locs ++ L) hres (by rw [e1]; exact hR1) k3 T' rfl X'
    exact ⟨t2, st t2 a1, b1⟩
  · obtain ⟨-, -, k3⟩ := vx_keep (free := gA g) h0 e1 hS (fun _ _ h => h) (fun _ h => h) hL hF
    obtain ⟨t2, a1, b1⟩ := kx E M1 T'.heap (locs ++ L) q ce hres (by rw [e1]; exact hR1) k3 (by rw [e1]; exact hce) hcv hcl T' rfl X'
    exact ⟨t2, st.trans a1, b1⟩
/-- the words of a virtual call, of a static one, of a constructor's -/
def CwV (own C : String) (index n : Nat) (y : MethodName) (b : ByteArray) (nLc : Nat) (r : Option FieldType) : Prop :=
  Cond.methodLink own index y ∈ lw_all ∧ Cond.instanceMethod y ∈ lw_all ∧ Cond.selects C y y ∈ lw_all ∧ Cond.initialized C ∈ lw_all ∧ Cond.code y b nLc r ∈ lw_all ∧ y.cls = C ∧ y.cls ≠ "java/lang/invoke/MethodHandle" ∧ y.cls ≠ "java/lang/invoke/VarHandle" ∧ (parseMethodDescriptor y.desc).map (fun d => d.parameters.length) = some n
def CwS (own : String) (index n : Nat) (y : MethodName) (b : ByteArray) (nLc : Nat) (r : Option FieldType) : Prop :=
  Cond.methodLink own index y ∈ lw_all ∧ Cond.static y ∈ lw_all ∧ Cond.initialized y.cls ∈ lw_all ∧ Cond.code y b nLc r ∈ lw_all ∧ y.cls ≠ "java/lang/invoke/MethodHandle" ∧ y.cls ≠ "java/lang/invoke/VarHandle" ∧ (parseMethodDescriptor y.desc).map (fun d => d.parameters.length) = some n
def CwI (own : String) (index n : Nat) (y : MethodName) (b : ByteArray) (nLc : Nat) : Prop :=
  Cond.methodLink own index y ∈ lw_all ∧ Cond.instanceMethod y ∈ lw_all ∧ Cond.initialized y.cls ∈ lw_all ∧ Cond.code y b nLc none ∈ lw_all ∧ y.name = "<init>" ∧ y.cls ≠ "java/lang/invoke/MethodHandle" ∧ y.cls ≠ "java/lang/invoke/VarHandle" ∧ (parseMethodDescriptor y.desc).map (fun d => d.parameters.length) = some n
theorem k_recv (hc : Cx g p l s m args meth c cc nL own) (hM : hR g M H) {C : String} {T : u_T} {N ci b : Nat} {fs : List Value} (hci : vwCl[ci]? = some (C, T, N)) (he : M b = some (.inr (ci, fs))) : ∃ cell : Cell, H[b]? = some cell ∧ cell.vm.isStatics = false ∧ s.vm.findClass C = some cell.cls :=
  va_recv hc.2.2.2.2.2.1.1 (hM.one he) (q := (C, T, N)) hci (q0 := 0) rfl
theorem k_goV (hc : Cx g p l s m args meth c cc nL own) {C : String} {T : u_T} {N ci b index n d mc ms nLc : Nat} {y : MethodName} {bc : ByteArray} {r : Option FieldType} {As : List Value} {res : Rs} {fs : List Value} (hw : CwV own C index n y bc nLc r) (hci : vwCl[ci]? = some (C, T, N)) (hdg : decode cc pc = .ok (.invokevirtual index, 3))
    (hK : KM g l y bc nLc r d mc ms (.ref b :: As) M res) (he : M b = some (.inr (ci, fs))) (hM : hR g M H) (hS : va_S (gA g) s.heap H locs) (hn : As.length = n) (hsz : ls.size = nL) (hroom : d + 1 ≤ R.frames ∧ 8 + (nLc + 11) + 60 * d ≤ R.locals) (hf : cells + mc ≤ R.cells ∧ slots + ms ≤ R.slots) (hW : (rest.map fun v => v.category).sum ≤ 8)
    (kk : ∀ (v : Option Value) (M1 : HM) (H1 : Heap) (locs1 : List Loc), res = .inl (v, M1) → hR g M1 H1 → va_S (gA g) s.heap H1 locs1 → W p l e R s m args below meth c H1 locs1 (cells + mc) (slots + ms) Q (F0 m (pc + 3) ls (v.toList ++ rest)))
    (kx : ∀ (E : String) (M1 : HM) (H1 : Heap) (locs1 : List Loc) (q9 : Addr) (ce : Cell), res = .inr (E, M1) → hR g M1 H1 → va_S (gA g) s.heap H1 locs1 → H1[q9]? = some ce → ce.vm = .none → s.vm.findClass E = some ce.cls → vx_W p l e R s m args below meth c H1 locs1 (cells + mc) (slots + ms) Q (F0 m pc ls rest) q9) :
    W p l e R s m args below meth c H locs cells slots Q (F0 m pc ls (As.reverse ++ .ref b :: rest)) := by
  obtain ⟨w1, w2, w3, w4, w5, w6, w7, w8, w9⟩ := hw
  exact k_ran (vx_runV (As := As) (rest := rest) ⟨hc.1, hc.2.1, hc.2.2.1, hc.2.2.2.1, hc.2.2.2.2.1⟩ hK (cwV n hc.2.2.2.2.1 (lw_gV w1 w2 w3 w4 w5) rfl rfl rfl ⟨w6, w7, w8, w9⟩ hroom) ⟨KP.blind, k_recv hc hM hci he, hc.pre hM hS⟩ rfl hn hsz rfl (by show 2 * 0 + _ ≤ 8; omega) hdg hf) hS kk kx
theorem k_goS (hc : Cx g p l s m args meth c cc nL own) {index n d mc ms nLc : Nat} {y : MethodName} {bc : ByteArray} {r : Option FieldType} {As : List Value} {res : Rs} (hw : CwS own index n y bc nLc r) (hdg : decode cc pc = .ok (.invokestatic index, 3))
    (hK : KM g l y bc nLc r d mc ms As M res) (hM : hR g M H) (hS : va_S (gA g) s.heap H locs) (hn : As.length = n) (hsz : ls.size = nL) (hroom : d + 1 ≤ R.frames ∧ 8 + (nLc + 11) + 60 * d ≤ R.locals) (hf : cells + mc ≤ R.cells ∧ slots + ms ≤ R.slots) (hW : (rest.map fun v => v.category).sum ≤ 8)
    (kk : ∀ (v : Option Value) (M1 : HM) (H1 : Heap) (locs1 : List Loc), res = .inl (v, M1) → hR g M1 H1 → va_S (gA g) s.heap H1 locs1 → W p l e R s m args below meth c H1 locs1 (cells + mc) (slots + ms) Q (F0 m (pc + 3) ls (v.toList ++ rest)))
    (kx : ∀ (E : String) (M1 : HM) (H1 : Heap) (locs1 : List Loc) (q9 : Addr) (ce : Cell), res = .inr (E, M1) → hR g M1 H1 → va_S (gA g) s.heap H1 locs1 → H1[q9]? = some ce → ce.vm = .none → s.vm.findClass E = some ce.cls → vx_W p l e R s m args below meth c H1 locs1 (cells + mc) (slots + ms) Q (F0 m pc ls rest) q9) :
    W p l e R s m args below meth c H locs cells slots Q (F0 m pc ls (As.reverse ++ rest)) := by
  obtain ⟨w1, w2, w4, w5, w7, w8, w9⟩ := hw
  exact k_ran (vx_runS (As := As) (rest := rest) ⟨hc.1, hc.2.1, hc.2.2.1, hc.2.2.2.1, hc.2.2.2.2.1⟩ hK (va_cwS n hc.2.2.2.2.1 (lw_gS w1 w2 w4 w5) rfl rfl rfl ⟨w7, w8, w9⟩ hroom) ⟨KP.blind, hc.pre hM hS⟩ rfl hn hsz rfl (by show 2 * 0 + _ ≤ 8; omega) hdg hf) hS kk kx
theorem k_goI (hc : Cx g p l s m args meth c cc nL own) {b index n d mc ms nLc : Nat} {y : MethodName} {bc : ByteArray} {As : List Value} {res : Rs} {Pc : Array Value → State → Prop} (hbl : FrameBlind Pc) (hw : CwI own index n y bc nLc) (hdg : decode cc pc = .ok (.invokespecial index, 3))
    (hK : vx_Met l y (Cond.code y bc nLc none :: lw_all) (rmOf d mc ms) Pc (KQ g res) (KX g res) mc ms (gA g)) (hP : ∀ U : State, U.heap = H → s.WarmedH U.vm → Pc (Value.ref b :: As).toArray U) (hS : va_S (gA g) s.heap H locs) (hn : As.length = n) (hsz : ls.size = nL) (hroom : d + 1 ≤ R.frames ∧ 8 + (nLc + 11) + 60 * d ≤ R.locals) (hf : cells + mc ≤ R.cells ∧ slots + ms ≤ R.slots) (hW : (rest.map fun v => v.category).sum ≤ 8)
    (kk : ∀ (v : Option Value) (M1 : HM) (H1 : Heap) (locs1 : List Loc), res = .inl (v, M1) → hR g M1 H1 → va_S (gA g) s.heap H1 locs1 → W p l e R s m args below meth c H1 locs1 (cells + mc) (slots + ms) Q (F0 m (pc + 3) ls (v.toList ++ rest)))
    (kx : ∀ (E : String) (M1 : HM) (H1 : Heap) (locs1 : List Loc) (q9 : Addr) (ce : Cell), res = .inr (E, M1) → hR g M1 H1 → va_S (gA g) s.heap H1 locs1 → H1[q9]? = some ce → ce.vm = .none → s.vm.findClass E = some ce.cls → vx_W p l e R s m args below meth c H1 locs1 (cells + mc) (slots + ms) Q (F0 m pc ls rest) q9) :
    W p l e R s m args below meth c H locs cells slots Q (F0 m pc ls (As.reverse ++ .ref b :: rest)) := by
  obtain ⟨w1, w2, w4, w5, w6, w7, w8, w9⟩ := hw
  exact k_ran (vx_runI (As := As) (rest := rest) ⟨hc.1, hc.2.1, hc.2.2.1, hc.2.2.2.1, hc.2.2.2.2.1⟩ hK (cwI n hc.2.2.2.2.1 (lw_gI w5) rfl rfl rfl (hc.2.2.2.2.1 _ w4) (hc.2.2.2.2.1 _ w1) (hc.2.2.2.2.1 _ w2) w6 ⟨w7, w8, w9⟩ hroom) ⟨hbl, hP⟩ rfl hn hsz rfl (by show 2 * 0 + _ ≤ 8; omega) hdg hf) hS kk kx
end KR2
/-- a constructor's start: the heap's size is told -/
def KPn (g : GC) (M : HM) (sz : Nat) (av : List Value) : Array Value → State → Prop := va_Pc av (fun U => (hR g M U.heap ∧ hE g U) ∧ U.heap.size = sz)
theorem KPn.blind {g : GC} {M : HM} {sz : Nat} {av : List Value} : FrameBlind (KPn g M sz av) := fun a U f mk h => ⟨h.1, ⟨h.2.1.1, h.2.1.2.calling⟩, h.2.2⟩
def KN (g : GC) (l : Launch) (y : MethodName) (b : ByteArray) (nL : Nat) (d mc ms : Nat) (av : List Value) (M : HM) (sz : Nat) (res : Rs) : Prop :=
  vx_Met l y (Cond.code y b nL none :: lw_all) (rmOf d mc ms) (KPn g M sz av) (KQ g res) (KX g res) mc ms (gA g)
/-- what is needed to throw: the words of new X(text) -/
def ThrOk (own : String) (ik ic : Nat) (cls : String) (names : List String) : Prop :=
  Bundle.fit cls = true ∧ (∀ n ∈ names, Bundle.fit n = true) ∧ Cond.classLink own ik cls ∈ lw_all ∧ Cond.initialized cls ∈ lw_all ∧ (∀ w ∈ (vx_atS own ic cls names).filter goodWord, w ∈ lw_all) ∧ (∀ w ∈ (vx_atS own ic cls names).filter (fun w => !goodWord w), w ∈ lw_nk) ∧ ∀ w ∈ Cond.classLink own ik cls :: Cond.initialized cls :: vx_atS own ic cls names, vx_ot w = true
section KR3
variable {p : Program} {l : Launch} {e : Env} {R : Room} {s : State} {m : MethodId} {args : Array Value} {below : List Frame} {meth : Method} {c : Code} {H : Heap} {locs : List Loc} {cells slots : Nat} {Q : State → Prop}
variable {cc : ByteArray} {pc nL : Nat} {ls : Array Slot} {rest : List Value} {g : GC} {M : HM} {own : String} {a : Nat} {res : Rs} {mc ms : Nat}
theorem Cx.preN (hc : Cx g p l s m args meth c cc nL own) (hM : hR g M H) (hS : va_S (gA g) s.heap H locs) {sz : Nat} (hz : H.size = sz) {av : List Value} : ∀ U : State, U.heap = H → s.WarmedH U.vm → KPn g M sz av av.toArray U := by
  intro U hU hW
  subst hU
  exact ⟨rfl, ⟨hM, hc.2.2.2.2.2.1.go hS hW⟩, hz⟩
theorem k_iret (hc : Cx g p l s m args meth c cc nL own) (hr : meth.sig.returnType = some .int) (hdg : decode cc pc = .ok (.ireturn, 1)) (hM : hR g M H) (hS : va_S (gA g) s.heap H locs) {v : Int32} (h1 : cells ≤ mc) (h2 : slots ≤ ms) (hres : res = .inl (some (.int v), M)) :
    W p l e R s m args below meth c H locs cells slots (vx_MQ below (KQ g res) (KX g res) args s mc ms (gA g)) (F0 m pc ls [.int v]) :=
  vx_ret (W.widen h1 h2 (W.iret hc.1 hc.2.1 hr (fun t ht hW => ⟨_, M, hres, rfl, by rw [ht]; exact hM, hS.F ht⟩) hS.2.2 hdg hc.2.2.2.2.2.2.1))
theorem k_zret (hc : Cx g p l s m args meth c cc nL own) {ty : FieldType} (hr : meth.sig.returnType = some ty) (hdg : decode cc pc = .ok (.ireturn, 1)) (hM : hR g M H) (hS : va_S (gA g) s.heap H locs) {v : Int32} (hn : narrow ty (.int v) = .int v) (h1 : cells ≤ mc) (h2 : slots ≤ ms) (hres : res = .inl (some (.int v), M)) :
    W p l e R s m args below meth c H locs cells slots (vx_MQ below (KQ g res) (KX g res) args s mc ms (gA g)) (F0 m pc ls [.int v]) :=
  vx_ret (W.widen h1 h2 (W.zret hc.1 hc.2.1 hr hn (fun t ht hW => ⟨_, M, hres, rfl, by rw [ht]; exact hM, hS.F ht⟩) hS.2.2 hdg hc.2.2.2.2.2.2.1))
theorem k_vret (hc : Cx g p l s m args meth c cc nL own) (hr : meth.sig.returnType = none) (hdg : decode cc pc = .ok (.return_, 1)) (hM : hR g M H) (hS : va_S (gA g) s.heap H locs) (h1 : cells ≤ mc) (h2 : slots ≤ ms) (hres : res = .inl (none, M)) :
    W p l e R s m args below meth c H locs cells slots (vx_MQ below (KQ g res) (KX g res) args s mc ms (gA g)) (F0 m pc ls []) :=
  vx_ret (W.widen h1 h2 (W.vret hc.1 hc.2.1 hr (fun t ht hW => ⟨_, M, hres, rfl, by rw [ht]; exact hM, hS.F ht⟩) hS.2.2 hdg hc.2.2.2.2.2.2.1))
theorem k_aret (hc : Cx g p l s m args meth c cc nL own) {ty : String} (hr : meth.sig.returnType = some (.object ty)) (hdg : decode cc pc = .ok (.areturn, 1)) (hM : hR g M H) (hS : va_S (gA g) s.heap H locs) {v : Value} (hn : v = .null ∨ ∃ a, v = .ref a) (h1 : cells ≤ mc) (h2 : slots ≤ ms) (hres : res = .inl (some v, M)) :
    W p l e R s m args below meth c H locs cells slots (vx_MQ below (KQ g res) (KX g res) args s mc ms (gA g)) (F0 m pc ls [v]) :=
  vx_ret (W.widen h1 h2 (W.aret hc.1 hc.2.1 hr (Or.inl ⟨_, rfl⟩) hn (fun t ht hW => ⟨_, M, hres, rfl, by rw [ht]; exact hM, hS.F ht⟩) hS.2.2 hdg hc.2.2.2.2.2.2.1))
theorem k_fret (hc : Cx g p l s m args meth c cc nL own) (hr : meth.sig.returnType = some .float) (hdg : decode cc pc = .ok (.freturn, 1)) (hM : hR g M H) (hS : va_S (gA g) s.heap H locs) {v : UInt32} (h1 : cells ≤ mc) (h2 : slots ≤ ms) (hres : res = .inl (some (.float v), M)) :
    W p l e R s m args below meth c H locs cells slots (vx_MQ below (KQ g res) (KX g res) args s mc ms (gA g)) (F0 m pc ls [.float v]) :=
  vx_ret (W.widen h1 h2 (W.fret hc.1 hc.2.1 hr (fun t ht hW => ⟨_, M, hres, rfl, by rw [ht]; exact hM, hS.F ht⟩) hS.2.2 hdg hc.2.2.2.2.2.2.1))
theorem k_dret (hc : Cx g p l s m args meth c cc nL own) (hr : meth.sig.returnType = some .double) (hdg : decode cc pc = .ok (.dreturn, 1)) (hM : hR g M H) (hS : va_S (gA g) s.heap H locs) {v : UInt64} (h1 : cells ≤ mc) (h2 : slots ≤ ms) (hres : res = .inl (some (.double v), M)) :
    W p l e R s m args below meth c H locs cells slots (vx_MQ below (KQ g res) (KX g res) args s mc ms (gA g)) (F0 m pc ls [.double v]) :=
  vx_ret (W.widen h1 h2 (W.dret hc.1 hc.2.1 hr (fun t ht hW => ⟨_, M, hres, rfl, by rw [ht]; exact hM, hS.F ht⟩) hS.2.2 hdg hc.2.2.2.2.2.2.1))
/-- it isn't caught here -/
theorem k_out (hc : Cx g p l s m args meth c cc nL own) (hnx : ∀ x ∈ c.exceptionTable.toList, False) {E : String} {ce : Cell} {q : Addr} (hM : hR g M H) (hS : va_S (gA g) s.heap H locs) (h1 : cells ≤ mc) (h2 : slots ≤ ms) (hcell : H[q]? = some ce) (hv : ce.vm = .none) (hcl : s.vm.findClass E = some ce.cls) (hres : res = .inr (E, M)) :
    vx_W p l e R s m args below meth c H locs cells slots (vx_MQ below (KQ g res) (KX g res) args s mc ms (gA g)) (F0 m pc ls rest) q :=
  vx_out (fun x hx => (hnx x hx).elim) hc.2.2.2.2.2.2.1 hcell hv hcl (fun t ht _ => ⟨M, hres, by rw [ht]; exact hM, hS.F ht⟩) hS.2.2 h1 h2
theorem k_throw (hc : Cx g p l s m args meth c cc nL own) (hnx : ∀ x ∈ c.exceptionTable.toList, False) {cls text : String} {names : List String} {ik is ic : Nat} (ht : ThrOk own ik ic cls names) (i : Nat) (hi : lw_tx[i]? = some (own, is, text)) (hM : hR g M H) (hS : va_S (gA g) s.heap H locs) (hsz : ls.size = nL)
    (d0 : decode cc pc = .ok (.new ik, 3)) (d3 : decode cc (pc + 3) = .ok (.dup, 1)) (d4 : decode cc (pc + 4) = .ok (.ldc is, 2)) (d6 : decode cc (pc + 6) = .ok (.invokespecial ic, 3)) (d9 : decode cc (pc + 9) = .ok (.athrow, 1))
    (hroom : names.length + 3 < R.frames ∧ (rest.map fun v => v.category).sum + (13 * (names.length + 1) + 43) ≤ R.locals ∧ cells + 1 ≤ R.cells ∧ slots + 6 ≤ R.slots) (h1 : cells + 1 ≤ mc) (h2 : slots + 6 ≤ ms) (hres : res = .inr (cls, M)) :
    W p l e R s m args below meth c H locs cells slots (vx_MQ below (KQ g res) (KX g res) args s mc ms (gA g)) (F0 m pc ls rest) := by
  obtain ⟨t1, t2, t3, t4, t5, t6, t7⟩ := ht
  obtain ⟨hexec, hb, hml, hown, hts, hE, hlk, hst0⟩ := hc
  obtain ⟨-, -, z1, z2, h3, h4, -⟩ := hE
  exact vx_throwS hexec hb hst0 hown t1 t2 (hts _ t3) (hts _ t4) (h4 i _ hi) (vx_hat (fun w hw => hts w (t5 w hw)) t6 (fun w hw => va_Nw.use (by
      have : ∀ w ∈ lw_nk, w.onTables = true := by decide +kernel
      exact this w hw) (h3 w hw))) t7 z1 z2 hS (hsz.trans hml.symm) d0 d3 d4 d6 d9 (fun x hx => (hnx x hx).elim) hroom.1 hroom.2.1 hroom.2.2.1 hroom.2.2.2 hlk
    (fun t _ hz hq => ⟨M, hres, hM.grow hq, Nat.le_trans hS.1 hz, fun x k1 k2 => (hq x (Nat.lt_of_lt_of_le k1 hS.1)).trans (hS.2.1 x k1 k2)⟩) hS.2.2 h1 h2
theorem k_throwW (hc : Cx g p l s m args meth c cc nL own) (hnx : ∀ x ∈ c.exceptionTable.toList, False) {cls text : String} {names : List String} {ik is ic : Nat} (ht : ThrOk own ik ic cls names) (i : Nat) (hi : lw_tx[i]? = some (own, is, text)) (hM : hR g M H) (hS : va_S (gA g) s.heap H locs) (hsz : ls.size = nL)
    (d0 : decode cc pc = .ok (.new ik, 3)) (d3 : decode cc (pc + 3) = .ok (.dup, 1)) (d4 : decode cc (pc + 4) = .ok (.ldc_w is, 3)) (d6 : decode cc (pc + 7) = .ok (.invokespecial ic, 3)) (d9 : decode cc (pc + 10) = .ok (.athrow, 1))
    (hroom : names.length + 3 < R.frames ∧ (rest.map fun v => v.category).sum + (13 * (names.length + 1) + 43) ≤ R.locals ∧ cells + 1 ≤ R.cells ∧ slots + 6 ≤ R.slots) (h1 : cells + 1 ≤ mc) (h2 : slots + 6 ≤ ms) (hres : res = .inr (cls, M)) :
    W p l e R s m args below meth c H locs cells slots (vx_MQ below (KQ g res) (KX g res) args s mc ms (gA g)) (F0 m pc ls rest) := by
  obtain ⟨t1, t2, t3, t4, t5, t6, t7⟩ := ht
  obtain ⟨hexec, hb, hml, hown, hts, hE, hlk, hst0⟩ := hc
  obtain ⟨-, -, z1, z2, h3, h4, -⟩ := hE
  exact vx_throwSW hexec hb hst0 hown t1 t2 (hts _ t3) (hts _ t4) (h4 i _ hi) (vx_hat (fun w hw => hts w (t5 w hw)) t6 (fun w hw => va_Nw.use (by
      have : ∀ w ∈ lw_nk, w.onTables = true := by decide +kernel
      exact this w hw) (h3 w hw))) t7 z1 z2 hS (hsz.trans hml.symm) d0 d3 d4 d6 d9 (fun x hx => (hnx x hx).elim) hroom.1 hroom.2.1 hroom.2.2.1 hroom.2.2.2 hlk
    (fun t _ hz hq => ⟨M, hres, hM.grow hq, Nat.le_trans hS.1 hz, fun x k1 k2 => (hq x (Nat.lt_of_lt_of_le k1 hS.1)).trans (hS.2.1 x k1 k2)⟩) hS.2.2 h1 h2
/-- the words of new NoSuchElementException(text) -/
theorem ns_g : ∀ w ∈ nsA.filter goodWord, w ∈ lw_all := by
  have h : (nsA.filter goodWord).all (fun w => decide (w ∈ lw_tbl)) = true := by decide +kernel
  exact fun w hw => lw_in (by simpa using List.all_eq_true.mp h w hw) (List.mem_filter.mp hw).2
theorem ns_b : ∀ w ∈ nsA.filter (fun w => !goodWord w), w ∈ lw_nk := by decide +kernel
theorem ns_ot : ∀ w ∈ Cond.classLink RX5 166 nsC :: Cond.initialized nsC :: nsA, vx_ot w = true := by decide +kernel
/-- new NoSuchElementException(text): its own constructor links another entry than the others' -/
theorem k_throwN (hc : Cx g p l s m args meth c cc nL RX5) (hnx : ∀ x ∈ c.exceptionTable.toList, False) {text : String} {is : Nat} (i : Nat) (hi : lw_tx[i]? = some (RX5, is, text)) (hM : hR g M H) (hS : va_S (gA g) s.heap H locs) (hsz : ls.size = nL)
    (d0 : decode cc pc = .ok (.new 166, 3)) (d3 : decode cc (pc + 3) = .ok (.dup, 1)) (d4 : decode cc (pc + 4) = .ok (.ldc is, 2)) (d6 : decode cc (pc + 6) = .ok (.invokespecial 170, 3)) (d9 : decode cc (pc + 9) = .ok (.athrow, 1))
    (hroom : 5 < R.frames ∧ (rest.map fun v => v.category).sum + 82 ≤ R.locals ∧ cells + 1 ≤ R.cells ∧ slots + 6 ≤ R.slots) (h1 : cells + 1 ≤ mc) (h2 : slots + 6 ≤ ms) (hres : res = .inr ("java/util/NoSuchElementException", M)) :
    W p l e R s m args below meth c H locs cells slots (vx_MQ below (KQ g res) (KX g res) args s mc ms (gA g)) (F0 m pc ls rest) := by
  obtain ⟨hexec, hb, hml, hown, hts, hE, hlk, hst0⟩ := id hc
  obtain ⟨-, -, z1, z2, h3, h4, -⟩ := hE
  exact ns_make hexec hb hst0 hown (hts _ ql_X5_166) (hts _ qn_NoSuchElementException) (h4 i (RX5, is, text) hi) (vx_hat (fun w hw => hts w (ns_g w hw)) ns_b (fun w hw => va_Nw.use (by
      have : ∀ w ∈ lw_nk, w.onTables = true := by decide +kernel
      exact this w hw) (h3 w hw))) ns_ot z1 z2 hS (hsz.trans hml.symm) d0 d3 d4 d6 hroom.1 (by have := hroom.2.1; omega) hroom.2.2.1 hroom.2.2.2
    (fun q H1 ce hz hq hce hcv hcl hS1 => vx_athrow hexec hb d9 (k_out hc hnx (hM.grow hq) hS1 h1 h2 hce hcv hcl hres))
theorem k_throwNW (hc : Cx g p l s m args meth c cc nL RX5) (hnx : ∀ x ∈ c.exceptionTable.toList, False) {text : String} {is : Nat} (i : Nat) (hi : lw_tx[i]? = some (RX5, is, text)) (hM : hR g M H) (hS : va_S (gA g) s.heap H locs) (hsz : ls.size = nL)
    (d0 : decode cc pc = .ok (.new 166, 3)) (d3 : decode cc (pc + 3) = .ok (.dup, 1)) (d4 : decode cc (pc + 4) = .ok (.ldc_w is, 3)) (d6 : decode cc (pc + 7) = .ok (.invokespecial 170, 3)) (d9 : decode cc (pc + 10) = .ok (.athrow, 1))
    (hroom : 5 < R.frames ∧ (rest.map fun v => v.category).sum + 82 ≤ R.locals ∧ cells + 1 ≤ R.cells ∧ slots + 6 ≤ R.slots) (h1 : cells + 1 ≤ mc) (h2 : slots + 6 ≤ ms) (hres : res = .inr ("java/util/NoSuchElementException", M)) :
    W p l e R s m args below meth c H locs cells slots (vx_MQ below (KQ g res) (KX g res) args s mc ms (gA g)) (F0 m pc ls rest) := by
  obtain ⟨hexec, hb, hml, hown, hts, hE, hlk, hst0⟩ := id hc
  obtain ⟨-, -, z1, z2, h3, h4, -⟩ := hE
  exact ns_makeW hexec hb hst0 hown (hts _ ql_X5_166) (hts _ qn_NoSuchElementException) (h4 i (RX5, is, text) hi) (vx_hat (fun w hw => hts w (ns_g w hw)) ns_b (fun w hw => va_Nw.use (by
      have : ∀ w ∈ lw_nk, w.onTables = true := by decide +kernel
      exact this w hw) (h3 w hw))) ns_ot z1 z2 hS (hsz.trans hml.symm) d0 d3 d4 d6 hroom.1 (by have := hroom.2.1; omega) hroom.2.2.1 hroom.2.2.2
    (fun q H1 ce hz hq hce hcv hcl hS1 => vx_athrow hexec hb d9 (k_out hc hnx (hM.grow hq) hS1 h1 h2 hce hcv hcl hres))
/-- a nest mate's static method, a nest mate's constructor -/
def CwSN (own host : String) (index n : Nat) (y : MethodName) (b : ByteArray) (nLc : Nat) (r : Option FieldType) : Prop :=
  Cond.methodLinkNest own index y host ∈ lw_nk ∧ Cond.static y ∈ lw_all ∧ Cond.initialized y.cls ∈ lw_all ∧ Cond.code y b nLc r ∈ lw_all ∧ y.cls ≠ "java/lang/invoke/MethodHandle" ∧ y.cls ≠ "java/lang/invoke/VarHandle" ∧ (parseMethodDescriptor y.desc).map (fun d => d.parameters.length) = some n
def CwIN (own host : String) (index n : Nat) (y : MethodName) (b : ByteArray) (nLc : Nat) : Prop :=
  Cond.methodLinkNest own index y host ∈ lw_nk ∧ Cond.instanceMethod y ∈ lw_all ∧ Cond.initialized y.cls ∈ lw_all ∧ Cond.code y b nLc none ∈ lw_all ∧ y.name = "<init>" ∧ y.cls ≠ "java/lang/invoke/MethodHandle" ∧ y.cls ≠ "java/lang/invoke/VarHandle" ∧ (parseMethodDescriptor y.desc).map (fun d => d.parameters.length) = some n
theorem k_goSN (hc : Cx g p l s m args meth c cc nL own) {host : String} {index n d mc ms nLc : Nat} {y : MethodName} {bc : ByteArray} {r : Option FieldType} {As : List Value} {res : Rs} (hw : CwSN own host index n y bc nLc r) (hdg : decode cc pc = .ok (.invokestatic index, 3))
    (hK : KM g l y bc nLc r d mc ms As M res) (hM : hR g M H) (hS : va_S (gA g) s.heap H locs) (hn : As.length = n) (hsz : ls.size = nL) (hroom : d + 1 ≤ R.frames ∧ 8 + (nLc + 11) + 60 * d ≤ R.locals) (hf : cells + mc ≤ R.cells ∧ slots + ms ≤ R.slots) (hW : (rest.map fun v => v.category).sum ≤ 8)
    (kk : ∀ (v : Option Value) (M1 : HM) (H1 : Heap) (locs1 : List Loc), res = .inl (v, M1) → hR g M1 H1 → va_S (gA g) s.heap H1 locs1 → W p l e R s m args below meth c H1 locs1 (cells + mc) (slots + ms) Q (F0 m (pc + 3) ls (v.toList ++ rest)))
    (kx : ∀ (E : String) (M1 : HM) (H1 : Heap) (locs1 : List Loc) (q9 : Addr) (ce : Cell), res = .inr (E, M1) → hR g M1 H1 → va_S (gA g) s.heap H1 locs1 → H1[q9]? = some ce → ce.vm = .none → s.vm.findClass E = some ce.cls → vx_W p l e R s m args below meth c H1 locs1 (cells + mc) (slots + ms) Q (F0 m pc ls rest) q9) :
    W p l e R s m args below meth c H locs cells slots Q (F0 m pc ls (As.reverse ++ rest)) := by
  obtain ⟨w1, w2, w4, w5, w7, w8, w9⟩ := hw
  exact k_ran (vx_runSN (As := As) (rest := rest) ⟨hc.1, hc.2.1, hc.2.2.1, hc.2.2.2.1, hc.2.2.2.2.1⟩ hK ⟨va_cnB n hc.2.2.2.2.1 (lw_gI w5) rfl rfl rfl (hc.2.2.2.2.2.1.2.2.2.2.1 _ w1) (hc.2.2.2.2.1 _ w4) ⟨w7, w8, w9⟩ hroom, hc.2.2.2.2.1 _ w2, trivial⟩ ⟨KP.blind, hc.pre hM hS⟩ rfl hn hsz rfl (by show 2 * 0 + _ ≤ 8; omega) hdg hf) hS kk kx
theorem k_goIN (hc : Cx g p l s m args meth c cc nL own) {host : String} {b index n d mc ms nLc : Nat} {y : MethodName} {bc : ByteArray} {As : List Value} {res : Rs} {Pc : Array Value → State → Prop} (hbl : FrameBlind Pc) (hw : CwIN own host index n y bc nLc) (hdg : decode cc pc = .ok (.invokespecial index, 3))
    (hK : vx_Met l y (Cond.code y bc nLc none :: lw_all) (rmOf d mc ms) Pc (KQ g res) (KX g res) mc ms (gA g)) (hP : ∀ U : State, U.heap = H → s.WarmedH U.vm → Pc (Value.ref b :: As).toArray U) (hS : va_S (gA g) s.heap H locs) (hn : As.length = n) (hsz : ls.size = nL) (hroom : d + 1 ≤ R.frames ∧ 8 + (nLc + 11) + 60 * d ≤ R.locals) (hf : cells + mc ≤ R.cells ∧ slots + ms ≤ R.slots) (hW : (rest.map fun v => v.category).sum ≤ 8)
    (kk : ∀ (v : Option Value) (M1 : HM) (H1 : Heap) (locs1 : List Loc), res = .inl (v, M1) → hR g M1 H1 → va_S (gA g) s.heap H1 locs1 → W p l e R s m args below meth c H1 locs1 (cells + mc) (slots + ms) Q (F0 m (pc + 3) ls (v.toList ++ rest)))
    (kx : ∀ (E : String) (M1 : HM) (H1 : Heap) (locs1 : List Loc) (q9 : Addr) (ce : Cell), res = .inr (E, M1) → hR g M1 H1 → va_S (gA g) s.heap H1 locs1 → H1[q9]? = some ce → ce.vm = .none → s.vm.findClass E = some ce.cls → vx_W p l e R s m args below meth c H1 locs1 (cells + mc) (slots + ms) Q (F0 m pc ls rest) q9) :
    W p l e R s m args below meth c H locs cells slots Q (F0 m pc ls (As.reverse ++ .ref b :: rest)) := by
  obtain ⟨w1, w2, w4, w5, w6, w7, w8, w9⟩ := hw
  exact k_ran (vx_runIN (As := As) (rest := rest) ⟨hc.1, hc.2.1, hc.2.2.1, hc.2.2.2.1, hc.2.2.2.2.1⟩ hK ⟨va_cnB n hc.2.2.2.2.1 (lw_gI w5) rfl rfl rfl (hc.2.2.2.2.2.1.2.2.2.2.1 _ w1) (hc.2.2.2.2.1 _ w4) ⟨w7, w8, w9⟩ hroom, w6, hc.2.2.2.2.1 _ w2⟩ ⟨hbl, hP⟩ rfl hn hsz rfl (by show 2 * 0 + _ ≤ 8; omega) hdg hf) hS kk kx
end KR3
