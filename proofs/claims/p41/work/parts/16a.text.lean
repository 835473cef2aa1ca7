/-! THE TEXT, THE LINE, THE HISTORY: their words, their contracts -/
section KT
variable {p : Program} {l : Launch} {e : Env} {R : Room} {s : State} {m : MethodId} {args : Array Value} {below : List Frame} {meth : Method} {c : Code} {H : Heap} {locs : List Loc} {cells slots : Nat} {Q : State → Prop}
variable {cc : ByteArray} {pc : Nat} {ls : Array Slot} {rest : List Value}
theorem k_ldcW (hexec : p.tables.exec = Jvm.exec) (hb : c.code = cc) {own tx : String} {index q : Nat} (hown : s.vm.findClass own = some m.cls) (hZ : vk_R own index tx q s) (hdg : decode cc pc = .ok (.ldc_w index, 3))
    (k : W p l e R s m args below meth c H locs cells slots Q (F0 m (pc + 3) ls (.ref q :: rest))) : W p l e R s m args below meth c H locs cells slots Q (F0 m pc ls rest) := by
  intro T hT X
  obtain ⟨t, a1, b1⟩ := k T hT X
  exact ⟨t, X.ldcStringW hexec hown (text := tx) (a := q) hZ.1 hZ.2 (g := F0 m pc ls rest) rfl (by rw [hb]; exact hdg) t a1, b1⟩
theorem k_tabDf (hexec : p.tables.exec = Jvm.exec) (hb : c.code = cc) {dflt lo hi : Int} {offs : Array Int} {len : Nat} {x : Int32} {tgt : Nat} (hdg : decode cc pc = .ok (.tableswitch dflt lo hi offs, len)) (h : (x.toInt < lo ∨ hi < x.toInt) ∨ (¬ x.toInt < lo ∧ ¬ hi < x.toInt ∧ offs[(x.toInt - lo).toNat]? = some dflt)) (ht : (pc : Int) + dflt = (tgt : Int))
    (k : W p l e R s m args below meth c H locs cells slots Q (F0 m tgt ls rest)) : W p l e R s m args below meth c H locs cells slots Q (F0 m pc ls (.int x :: rest)) := by
  rcases h with h | ⟨h1, h2, h3⟩
  · exact lv_tableOut hexec hb hdg h ht k
  · exact lv_tableIn hexec hb hdg h1 h2 h3 ht k
end KT
def chOk (v : Int32) : Prop := narrow .char (.int v) = .int v
theorem chOk.v {v : Int32} (h : chOk v) : vp_nar .char v = v := by
  unfold vp_nar
  rw [show narrow .char (.int v) = .int v from h]
theorem chOk.fit {v : Int32} (h : chOk v) : fits .char (.int v) = true := by
  have h1 : v.toUInt32.toUInt16.toUInt32.toInt32 = v := Value.int.inj h
  have hq : v.toUInt32.toUInt16.toNat < 65536 := v.toUInt32.toUInt16.toNat_lt
  have e : v = nI v.toUInt32.toUInt16.toNat := by
    conv => lhs; rw [← h1]
    apply Int32.toBitVec_inj.mp
    apply BitVec.eq_of_toNat_eq
    show v.toUInt32.toUInt16.toUInt32.toNat = (BitVec.ofNat 32 v.toUInt32.toUInt16.toNat).toNat
    rw [BitVec.toNat_ofNat, Nat.mod_eq_of_lt (by omega)]
    exact UInt16.toNat_toUInt32 _
  rw [e]
  exact (pk_charN hq).2
theorem bI_fit {c : Prop} [Decidable c] : fits .boolean (.int (bI c)) = true := by
  by_cases h : c
  · rw [bI_t h]; rfl
  · rw [bI_f h]; rfl
def c2I (x : Int32) : Int32 := (x.toUInt32 % 65536).toInt32
theorem c2I_ok (x : Int32) : chOk (c2I x) := by
  have h : (x.toUInt32 % 65536).toNat < 65536 := by
    rw [UInt32.toNat_mod]
    exact Nat.mod_lt _ (by decide)
  have e : c2I x = nI (x.toUInt32 % 65536).toNat := by
    apply Int32.toBitVec_inj.mp
    apply BitVec.eq_of_toNat_eq
    show (x.toUInt32 % 65536).toNat = (BitVec.ofNat 32 (x.toUInt32 % 65536).toNat).toNat
    rw [BitVec.toNat_ofNat, Nat.mod_eq_of_lt (by omega)]
  unfold chOk
  rw [e]
  exact (pk_charN h).1
theorem upC_id {cs : CS} {k : Nat} : upC cs k (cs k) = cs := by
  funext j
  unfold upC
  by_cases h : j = k
  · simp [h]
  · simp [h]
theorem fad_k {x i : Nat} : x + 54 + 17 * i = fad x (3 + i) := by
  unfold fad
  rw [if_neg (by omega)]
  omega
-- the text
abbrev tIn (cs : CS) : Prop := ¬ cs 11 3 2 < 0 ∧ ¬ cs 11 3 1 ≤ cs 11 3 2 ∧ ¬ nI 60 ≤ cs 11 3 2
def sgH (cs : CS) : Int32 := if tIn cs then cs 11 1 (cs 11 3 2).toNatClampNeg else 32
abbrev rsP (cs : CS) (v : Int32) : Prop := sgH cs = v
def rsS (cs : CS) (v : Int32) : CS := if sgH cs = v then upS cs 2 (cs 11 3 2 + 1) else cs
abbrev dgP (cs : CS) : Prop := ¬ sgH cs < 48 ∧ sgH cs ≤ 57
def dgV (cs : CS) : Int32 := if dgP cs then sgH cs - 48 else -1
def dgS (cs : CS) : CS := if dgP cs then upS cs 2 (cs 11 3 2 + 1) else cs
abbrev rnP (cs : CS) : Prop := ¬ dgV cs = -1
def addS (cs : CS) (v : Int32) : CS := upN cs (if rroom 3 (cs 11 3 0) then cs 11 3 0 + 1 else cs 11 3 0) (if rroom 3 (cs 11 3 0) then upd (cs 11 0) (cs 11 3 0).toNatClampNeg v else cs 11 0)
def rnS (cs : CS) (o : Int32) : CS := if dgV cs = -1 then dgS cs else if o = 0 then addS (dgS cs) (dgV cs) else addS (dgS (dgS cs)) (if dgV (dgS cs) = -1 then dgV cs else dgV cs * 10 + dgV (dgS cs))
abbrev rpP (cs : CS) (v : Int32) : Prop := ((v = 49 ∨ v = 50) ∧ rnP cs) ∨ (¬ (v = 49 ∨ v = 50) ∧ rsP cs v)
def rpS (cs : CS) (v : Int32) : CS := if v = 49 ∨ v = 50 then rnS cs (bI (v = 50)) else rsS cs v
def fmI (v : Int32) : Nat := if v = 98 then 2 else if v = 100 then 5 else if v = 101 then 1 else if v = 108 then 4 else if v = 115 then 0 else if v = 116 then 3 else if v = 119 then 6 else 7
def fmB (v : Int32) : List Int32 := lw_by.getD (fmI v) []
theorem fmI_lt (v : Int32) : fmI v < 8 := by
  unfold fmI
  repeat (first | split | decide)
theorem fmI_by (v : Int32) : lw_by[fmI v]? = some (fmB v) := by
  have h := fmI_lt v
  unfold fmB
  generalize fmI v = i at h ⊢
  have h2 : i < lw_by.length := Nat.lt_of_lt_of_le h (by decide)
  rw [List.getD_eq_getElem?_getD, List.getElem?_eq_getElem h2]
  rfl
theorem fmB_len (v : Int32) : (fmB v).length < 2 ^ 31 := by
  have h := fmI_lt v
  have e : ∀ i, i < 8 → (lw_by.getD i []).length < 2 ^ 31 := by decide
  exact e _ h
def rcL (b : List Int32) : Nat → Nat → CS → Bool × CS
  | 0, _, cs => (true, cs)
  | d + 1, k, cs => if rpP cs (chI b k) then rcL b d (k + 1) (rpS cs (chI b k)) else (false, rpS cs (chI b k))
def rc0 (cs : CS) : CS := upS (upN cs 0 (cs 11 0)) 3 (sgH (upN cs 0 (cs 11 0)))
abbrev rcB (cs : CS) : List Int32 := fmB (rc0 cs 11 3 3)
abbrev rcP (cs : CS) : Prop := (rcL (rcB cs) (rcB cs).length 0 (rc0 cs)).1 = true ∧ ¬ nI (rcB cs).length = 0
def rcS (cs : CS) : CS := (rcL (rcB cs) (rcB cs).length 0 (rc0 cs)).2
def ccL : Nat → Nat → CS → Int32 × CS
  | 0, _, cs => (-1, cs)
  | d + 1, k, cs => if ¬ rcP cs then (-1, rcS cs) else if ¬ rcS cs 11 3 2 < rcS cs 11 3 1 then (nI k, rcS cs) else if ¬ rsP (rcS cs) 59 then (-1, rsS (rcS cs) 59) else ccL d (k + 1) (rsS (rcS cs) 59)
def ccV (cs : CS) : Int32 := (ccL 60 1 (upS cs 2 0)).1
def ccS (cs : CS) : CS := (ccL 60 1 (upS cs 2 0)).2
def tpS (cs : CS) (v : Int32) : CS := if ¬ cs 11 3 1 < 0 ∧ ¬ nI 60 ≤ cs 11 3 1 then upS (upA cs 1 (upd (cs 11 1) (cs 11 3 1).toNatClampNeg v)) 1 (upA cs 1 (upd (cs 11 1) (cs 11 3 1).toNatClampNeg v) 11 3 1 + 1) else cs
def sgOk (cs : CS) : Prop := ∀ k, chOk (cs 11 1 k)
theorem sgOk_of {a b : CS} (h : sgOk a) (e : b 11 1 = a 11 1) : sgOk b := fun k => by rw [e]; exact h k
theorem upN_1 {cs : CS} {z : Int32} {f : Nat → Int32} : upN cs z f 11 1 = cs 11 1 := rfl
theorem upS_1 {cs : CS} {j : Nat} {v : Int32} : upS cs j v 11 1 = cs 11 1 := upS_r (by omega)
theorem dgS_1 {cs : CS} : dgS cs 11 1 = cs 11 1 := by unfold dgS; split; exact upS_1; rfl
theorem rsS_1 {cs : CS} {v : Int32} : rsS cs v 11 1 = cs 11 1 := by unfold rsS; split; exact upS_1; rfl
theorem addS_1 {cs : CS} {v : Int32} : addS cs v 11 1 = cs 11 1 := upN_1
theorem rnS_1 {cs : CS} {o : Int32} : rnS cs o 11 1 = cs 11 1 := by unfold rnS; split; exact dgS_1; split; exact addS_1.trans dgS_1; exact addS_1.trans (dgS_1.trans dgS_1)
theorem rpS_1 {cs : CS} {v : Int32} : rpS cs v 11 1 = cs 11 1 := by unfold rpS; split; exact rnS_1; exact rsS_1
theorem rc0_1 {cs : CS} : rc0 cs 11 1 = cs 11 1 := upS_1.trans upN_1
theorem rcL_1 {b : List Int32} : ∀ (d k : Nat) (cs : CS), (rcL b d k cs).2 11 1 = cs 11 1
  | 0, _, _ => rfl
  | d + 1, k, cs => by
    unfold rcL
    split
    · exact (rcL_1 d (k + 1) _).trans rpS_1
    · exact rpS_1
theorem rcS_1 {cs : CS} : rcS cs 11 1 = cs 11 1 := (rcL_1 _ _ _).trans rc0_1
theorem sgH_ok {cs : CS} (h : sgOk cs) : chOk (sgH cs) := by
  unfold sgH
  split
  · exact h _
  · rfl
-- the line
def lpS (cs : CS) (v : Int32) : CS := if ¬ cs 11 3 4 < 0 ∧ ¬ nI 79 ≤ cs 11 3 4 then upS (upA cs 2 (upd (cs 11 2) (cs 11 3 4).toNatClampNeg v)) 4 (upA cs 2 (upd (cs 11 2) (cs 11 3 4).toNatClampNeg v) 11 3 4 + 1) else cs
def lnS (cs : CS) (n : Int32) : CS := lpS (if n < 10 then cs else lpS cs (c2I (48 + (n / 10 - n / 10 / 10 * 10)))) (c2I (48 + (n - n / 10 * 10)))
def lk1 (cs : CS) : CS := if cs 11 3 4 ≤ 0 then cs else lpS cs 32
def lk2 (cs : CS) (a q : Int32) : CS := lnS (lpS (lnS (lk1 cs) a) 64) q
def lkS (cs : CS) (a q t : Int32) : CS := if t = 0 then lk2 cs a q else lnS (lpS (lk2 cs a q) (if t ≤ 0 then 45 else 43)) (absI t)
def lwS (b : List Int32) (cs : CS) (n : Nat) : CS := itr (fun k c => lpS c (chI b k)) cs n
def lsOk (cs : CS) : Prop := ∀ k, chOk (cs 11 2 k)
-- the history
abbrev nxI (cs : CS) : Nat := (cs 11 3 6).toNatClampNeg
def kpA (cs : CS) : CS := upC cs (3 + (cs 11 3 6).toNatClampNeg) (cs 1)
def kpB (cs : CS) : CS := upS (kpA cs) 6 (if 8 ≤ kpA cs 11 3 6 + 1 then 0 else kpA cs 11 3 6 + 1)
def kpS (cs : CS) : CS := upS (kpB cs) 5 (minI 8 (kpB cs 11 3 5 + 1))
def tbA (cs : CS) : CS := upS cs 6 (if cs 11 3 6 ≤ 0 then 7 else cs 11 3 6 - 1)
def tbB (cs : CS) : CS := upS (tbA cs) 5 (maxI 0 (tbA cs 11 3 5 - 1))
def tbS (cs : CS) : CS := upC (tbB cs) 0 (tbB cs (3 + (tbB cs 11 3 6).toNatClampNeg))
abbrev nxOk (cs : CS) : Prop := ¬ cs 11 3 6 < 0 ∧ ¬ nI 8 ≤ cs 11 3 6
theorem nx_lt {i : Int32} (h0 : ¬ i < 0) (h8 : ¬ nI 8 ≤ i) : i.toNatClampNeg < 8 := by
  obtain ⟨j, hj, rfl⟩ := nI_of h0
  rw [nI_clamp hj]
  rcases Nat.lt_or_ge j 8 with h | h
  · exact h
  · exact absurd (nI_le h hj) h8
theorem tbA_nx {cs : CS} (h : nxOk cs) : nxOk (tbA cs) := by
  obtain ⟨j, hj, e⟩ := nI_of h.1
  have hj8 : j < 8 := by
    have := nx_lt h.1 h.2
    rw [e, nI_clamp hj] at this
    exact this
  unfold nxOk tbA
  rw [show upS cs 6 (if cs 11 3 6 ≤ 0 then 7 else cs 11 3 6 - 1) 11 3 6 = (if cs 11 3 6 ≤ 0 then 7 else cs 11 3 6 - 1) from rfl, e]
  have e2 : ∀ i, i < 8 → ¬ (if nI i ≤ 0 then (7 : Int32) else nI i - 1) < 0 ∧ ¬ nI 8 ≤ (if nI i ≤ 0 then 7 else nI i - 1) := by decide
  exact e2 j hj8
theorem k_st0 {g : GC} {M : HM} {x : Nat} {cs : CS} (h : ClsAt g M x cs) {r : Option Value} : (Sum.inl (r, M) : Rs) = .inl (r, putC g M x cs) := by rw [putC_same h]
set_option maxHeartbeats 4000000 in
set_option maxRecDepth 100000 in
theorem c_X4_length (l : Launch) (hlf : l.stackTraces = false) (g : GC) (M : HM) (x : Nat) (cs : CS) (hW : ClsAt g M x cs) : KM g l yX4_length cX4_length 1 (some .int) 1 0 0 [.ref (x + 190)] M (.inl (some (.int (cs 11 3 1)), M)) := by
  refine k_meth hlf (by decide) (Nat.le_of_ble_eq_true rfl) fun p e s m below meth c ls hc hr hnx hM hS hl => ?_
  have hc : Cx g p l s m [.ref (x + 190)].toArray meth c cX4_length 1 RX4 := hc
  have hx := hc.1
  have hb := hc.2.1
  have hl : lv_has ls 1 [(0, .ref (x + 190))] := hl
  refine lv_aload_n hx hb dX4_length_0 rfl (lv_at hl 0 rfl) ?_
  refine gt_X4_24 hc dX4_length_1 hM hW.te rfl ?_
  exact k_iret hc hr dX4_length_4 hM hS (Nat.le_of_ble_eq_true rfl) (Nat.le_of_ble_eq_true rfl) (by rfl)
set_option maxHeartbeats 4000000 in
set_option maxRecDepth 100000 in
theorem c_X4_position (l : Launch) (hlf : l.stackTraces = false) (g : GC) (M : HM) (x : Nat) (cs : CS) (hW : ClsAt g M x cs) : KM g l yX4_position cX4_position 1 (some .int) 1 0 0 [.ref (x + 190)] M (.inl (some (.int (cs 11 3 2)), M)) := by
  refine k_meth hlf (by decide) (Nat.le_of_ble_eq_true rfl) fun p e s m below meth c ls hc hr hnx hM hS hl => ?_
  have hc : Cx g p l s m [.ref (x + 190)].toArray meth c cX4_position 1 RX4 := hc
  have hx := hc.1
  have hb := hc.2.1
  have hl : lv_has ls 1 [(0, .ref (x + 190))] := hl
  refine lv_aload_n hx hb dX4_position_0 rfl (lv_at hl 0 rfl) ?_
  refine gt_X4_28 hc dX4_position_1 hM hW.te rfl ?_
  exact k_iret hc hr dX4_position_4 hM hS (Nat.le_of_ble_eq_true rfl) (Nat.le_of_ble_eq_true rfl) (by rfl)
set_option maxHeartbeats 4000000 in
set_option maxRecDepth 100000 in
theorem c_X4_kind (l : Launch) (hlf : l.stackTraces = false) (g : GC) (M : HM) (x : Nat) (cs : CS) (hW : ClsAt g M x cs) (hk : chOk (cs 11 3 3)) : KM g l yX4_kind cX4_kind 1 (some .char) 1 0 0 [.ref (x + 190)] M (.inl (some (.int (cs 11 3 3)), M)) := by
  refine k_meth hlf (by decide) (Nat.le_of_ble_eq_true rfl) fun p e s m below meth c ls hc hr hnx hM hS hl => ?_
  have hc : Cx g p l s m [.ref (x + 190)].toArray meth c cX4_kind 1 RX4 := hc
  have hx := hc.1
  have hb := hc.2.1
  have hl : lv_has ls 1 [(0, .ref (x + 190))] := hl
  refine lv_aload_n hx hb dX4_kind_0 rfl (lv_at hl 0 rfl) ?_
  refine gt_X4_31 hc dX4_kind_1 hM hW.te rfl ?_
  exact k_zret hc hr dX4_kind_4 hM hS hk (Nat.le_of_ble_eq_true rfl) (Nat.le_of_ble_eq_true rfl) (by rfl)
set_option maxHeartbeats 4000000 in
set_option maxRecDepth 100000 in
theorem c_X4_isFull (l : Launch) (hlf : l.stackTraces = false) (g : GC) (M : HM) (x : Nat) (cs : CS) (hW : ClsAt g M x cs) : KM g l yX4_isFull cX4_isFull 1 (some .boolean) 1 0 0 [.ref (x + 190)] M (.inl (some (.int (bI (¬ cs 11 3 1 < nI 60))), M)) := by
  refine k_meth hlf (by decide) (Nat.le_of_ble_eq_true rfl) fun p e s m below meth c ls hc hr hnx hM hS hl => ?_
  have hc : Cx g p l s m [.ref (x + 190)].toArray meth c cX4_isFull 1 RX4 := hc
  have hx := hc.1
  have hb := hc.2.1
  have hl : lv_has ls 1 [(0, .ref (x + 190))] := hl
  refine lv_aload_n hx hb dX4_isFull_0 rfl (lv_at hl 0 rfl) ?_
  refine gt_X4_24 hc dX4_isFull_1 hM hW.te rfl ?_
  refine lv_aload_n hx hb dX4_isFull_4 rfl (lv_at hl 0 rfl) ?_
  refine gt_X4_20 hc dX4_isFull_5 hM hW.te rfl ?_
  refine k_alenC hc hM hW.sg dX4_isFull_8 ?_
  refine lv_icmp_lt (tgt := 16) hx hb dX4_isFull_9 (by decide) (fun c_9 => ?_) (fun c_9 => ?_)
  · skip
    refine lv_iconst (v := 0) hx hb dX4_isFull_16 (by decide) ?_
    exact k_zret hc hr dX4_isFull_17 hM hS (by first | rfl | exact bI_n) (Nat.le_of_ble_eq_true rfl) (Nat.le_of_ble_eq_true rfl) (by simp only [bI, eq_true c_9, not_false_eq_true, not_true_eq_false, and_true, true_and, and_false, false_and, and_self, ↓reduceIte, or_true, true_or, or_self, or_false, false_or]; try rw [putC_same hW])
  · skip
    refine lv_iconst (v := 1) hx hb dX4_isFull_12 (by decide) ?_
    refine lv_goto (tgt := 17) hx hb dX4_isFull_13 (by decide) ?_
    exact k_zret hc hr dX4_isFull_17 hM hS (by first | rfl | exact bI_n) (Nat.le_of_ble_eq_true rfl) (Nat.le_of_ble_eq_true rfl) (by simp only [bI, eq_false c_9, not_false_eq_true, not_true_eq_false, and_true, true_and, and_false, false_and, and_self, ↓reduceIte, or_true, true_or, or_self, or_false, false_or]; try rw [putC_same hW])
set_option maxHeartbeats 4000000 in
set_option maxRecDepth 100000 in
theorem c_X4_put (l : Launch) (hlf : l.stackTraces = false) (g : GC) (M : HM) (x : Nat) (cs : CS) (v : Int32) (hW : ClsAt g M x cs) (hv : chOk v) : KM g l yX4_put cX4_put 2 (some .int) 1 0 0 [.ref (x + 190), .int v] M (.inl (some (.int (tpS cs v 11 3 1)), (putC g M x (tpS cs v)))) := by
  refine k_meth hlf (by decide) (Nat.le_of_ble_eq_true rfl) fun p e s m below meth c ls hc hr hnx hM hS hl => ?_
  have hc : Cx g p l s m [.ref (x + 190), .int v].toArray meth c cX4_put 2 RX4 := hc
  have hx := hc.1
  have hb := hc.2.1
  have hl : lv_has ls 2 [(0, .ref (x + 190)), (1, .int v)] := hl
  refine lv_aload_n hx hb dX4_put_0 rfl (lv_at hl 0 rfl) ?_
  refine gt_X4_24 hc dX4_put_1 hM hW.te rfl ?_
  refine lv_if_lt (tgt := 39) hx hb dX4_put_4 (by decide) (fun c_4 => ?_) (fun c_4 => ?_)
  · skip
    refine lv_aload_n hx hb dX4_put_39 rfl (lv_at hl 0 rfl) ?_
    refine gt_X4_24 hc dX4_put_40 hM hW.te rfl ?_
    exact k_iret hc hr dX4_put_43 hM hS (Nat.le_of_ble_eq_true rfl) (Nat.le_of_ble_eq_true rfl) (by simp only [tpS, eq_true c_4, not_false_eq_true, not_true_eq_false, and_true, true_and, and_false, false_and, and_self, ↓reduceIte, or_true, true_or, or_self, or_false, false_or]; try rw [putC_same hW])
  · skip
    refine lv_aload_n hx hb dX4_put_7 rfl (lv_at hl 0 rfl) ?_
    refine gt_X4_24 hc dX4_put_8 hM hW.te rfl ?_
    refine lv_aload_n hx hb dX4_put_11 rfl (lv_at hl 0 rfl) ?_
    refine gt_X4_20 hc dX4_put_12 hM hW.te rfl ?_
    refine k_alenC hc hM hW.sg dX4_put_15 ?_
    refine lv_icmp_ge (tgt := 39) hx hb dX4_put_16 (by decide) (fun c_16 => ?_) (fun c_16 => ?_)
    · skip
      refine lv_aload_n hx hb dX4_put_39 rfl (lv_at hl 0 rfl) ?_
      refine gt_X4_24 hc dX4_put_40 hM hW.te rfl ?_
      exact k_iret hc hr dX4_put_43 hM hS (Nat.le_of_ble_eq_true rfl) (Nat.le_of_ble_eq_true rfl) (by simp only [tpS, eq_false c_4, eq_true c_16, not_false_eq_true, not_true_eq_false, and_true, true_and, and_false, false_and, and_self, ↓reduceIte, or_true, true_or, or_self, or_false, false_or]; try rw [putC_same hW])
    · skip
      refine lv_aload_n hx hb dX4_put_19 rfl (lv_at hl 0 rfl) ?_
      refine gt_X4_20 hc dX4_put_20 hM hW.te rfl ?_
      refine lv_aload_n hx hb dX4_put_23 rfl (lv_at hl 0 rfl) ?_
      refine gt_X4_24 hc dX4_put_24 hM hW.te rfl ?_
      refine lv_iload_n hx hb dX4_put_27 rfl (lv_at hl 1 rfl) ?_
      refine k_cast hc hM hS hW.sg hv.v (in_of (by decide) c_4 c_16) dX4_put_28 (fun H locs hM hS => ?_)
      have hM := hR.eq hM (putC_sg hW)
      have hW := ClsAt.put (g := g) (M := M) (x := x) (cs := (upA cs 1 (upd (cs 11 1) (cs 11 3 1).toNatClampNeg v)))
      refine lv_aload_n hx hb dX4_put_29 rfl (lv_at hl 0 rfl) ?_
      refine lv_dup hx hb dX4_put_30 rfl ?_
      refine gt_X4_24 hc dX4_put_31 hM hW.te rfl ?_
      refine lv_iconst (v := 1) hx hb dX4_put_34 (by decide) ?_
      refine lv_iadd hx hb dX4_put_35 ?_
      refine pt_X4_24 hc dX4_put_36 hM hS hW.te rfl rfl (Nat.le_of_ble_eq_true rfl) (fun H locs hM hS => ?_)
      have hM := hR.eq hM (putC_te hW 1 (v := (((upA cs 1 (upd (cs 11 1) (cs 11 3 1).toNatClampNeg v)) 11 3 1) + 1)) (by decide) te_s1)
      have hM := hR.eq hM putC_putC
      have hW := ClsAt.put (g := g) (M := M) (x := x) (cs := (upS (upA cs 1 (upd (cs 11 1) (cs 11 3 1).toNatClampNeg v)) 1 (((upA cs 1 (upd (cs 11 1) (cs 11 3 1).toNatClampNeg v)) 11 3 1) + 1)))
      refine lv_aload_n hx hb dX4_put_39 rfl (lv_at hl 0 rfl) ?_
      refine gt_X4_24 hc dX4_put_40 hM hW.te rfl ?_
      exact k_iret hc hr dX4_put_43 hM hS (Nat.le_of_ble_eq_true rfl) (Nat.le_of_ble_eq_true rfl) (by simp only [tpS, eq_false c_4, eq_false c_16, not_false_eq_true, not_true_eq_false, and_true, true_and, and_false, false_and, and_self, ↓reduceIte, or_true, true_or, or_self, or_false, false_or]; try rw [putC_same hW])
set_option maxHeartbeats 4000000 in
set_option maxRecDepth 100000 in
theorem c_X4_clear (l : Launch) (hlf : l.stackTraces = false) (g : GC) (M : HM) (x : Nat) (cs : CS) (hW : ClsAt g M x cs) : KM g l yX4_clear cX4_clear 1 none 1 0 0 [.ref (x + 190)] M (.inl (none, (putC g M x (upS cs 1 0)))) := by
  refine k_meth hlf (by decide) (Nat.le_of_ble_eq_true rfl) fun p e s m below meth c ls hc hr hnx hM hS hl => ?_
  have hc : Cx g p l s m [.ref (x + 190)].toArray meth c cX4_clear 1 RX4 := hc
  have hx := hc.1
  have hb := hc.2.1
  have hl : lv_has ls 1 [(0, .ref (x + 190))] := hl
  refine lv_aload_n hx hb dX4_clear_0 rfl (lv_at hl 0 rfl) ?_
  refine lv_iconst (v := 0) hx hb dX4_clear_1 (by decide) ?_
  refine pt_X4_24 hc dX4_clear_2 hM hS hW.te rfl rfl (Nat.le_of_ble_eq_true rfl) (fun H locs hM hS => ?_)
  have hM := hR.eq hM (putC_te hW 1 (v := 0) (by decide) te_s1)
  have hW := ClsAt.put (g := g) (M := M) (x := x) (cs := (upS cs 1 0))
  exact k_vret hc hr dX4_clear_5 hM hS (Nat.le_of_ble_eq_true rfl) (Nat.le_of_ble_eq_true rfl) (by rfl)
set_option maxHeartbeats 4000000 in
set_option maxRecDepth 100000 in
theorem c_X4_rewind (l : Launch) (hlf : l.stackTraces = false) (g : GC) (M : HM) (x : Nat) (cs : CS) (hW : ClsAt g M x cs) : KM g l yX4_rewind cX4_rewind 1 none 1 0 0 [.ref (x + 190)] M (.inl (none, (putC g M x (upS cs 2 0)))) := by
  refine k_meth hlf (by decide) (Nat.le_of_ble_eq_true rfl) fun p e s m below meth c ls hc hr hnx hM hS hl => ?_
  have hc : Cx g p l s m [.ref (x + 190)].toArray meth c cX4_rewind 1 RX4 := hc
  have hx := hc.1
  have hb := hc.2.1
  have hl : lv_has ls 1 [(0, .ref (x + 190))] := hl
  refine lv_aload_n hx hb dX4_rewind_0 rfl (lv_at hl 0 rfl) ?_
  refine lv_iconst (v := 0) hx hb dX4_rewind_1 (by decide) ?_
  refine pt_X4_28 hc dX4_rewind_2 hM hS hW.te rfl rfl (Nat.le_of_ble_eq_true rfl) (fun H locs hM hS => ?_)
  have hM := hR.eq hM (putC_te hW 2 (v := 0) (by decide) te_s2)
  have hW := ClsAt.put (g := g) (M := M) (x := x) (cs := (upS cs 2 0))
  exact k_vret hc hr dX4_rewind_5 hM hS (Nat.le_of_ble_eq_true rfl) (Nat.le_of_ble_eq_true rfl) (by rfl)
set_option maxHeartbeats 4000000 in
set_option maxRecDepth 100000 in
theorem c_X4_signHere (l : Launch) (hlf : l.stackTraces = false) (g : GC) (M : HM) (x : Nat) (cs : CS) (hW : ClsAt g M x cs) (ht : sgOk cs) : KM g l yX4_signHere cX4_signHere 1 (some .char) 1 0 0 [.ref (x + 190)] M (.inl (some (.int (sgH cs)), M)) := by
  refine k_meth hlf (by decide) (Nat.le_of_ble_eq_true rfl) fun p e s m below meth c ls hc hr hnx hM hS hl => ?_
  have hc : Cx g p l s m [.ref (x + 190)].toArray meth c cX4_signHere 1 RX4 := hc
  have hx := hc.1
  have hb := hc.2.1
  have hl : lv_has ls 1 [(0, .ref (x + 190))] := hl
  refine lv_aload_n hx hb dX4_signHere_0 rfl (lv_at hl 0 rfl) ?_
  refine gt_X4_28 hc dX4_signHere_1 hM hW.te rfl ?_
  refine lv_if_lt (tgt := 42) hx hb dX4_signHere_4 (by decide) (fun c_4 => ?_) (fun c_4 => ?_)
  · skip
    refine lv_bipush (v := 32) hx hb dX4_signHere_42 (by decide) ?_
    exact k_zret hc hr dX4_signHere_44 hM hS (by first | rfl | exact ht _) (Nat.le_of_ble_eq_true rfl) (Nat.le_of_ble_eq_true rfl) (by simp only [sgH, tIn, eq_true c_4, not_false_eq_true, not_true_eq_false, and_true, true_and, and_false, false_and, and_self, ↓reduceIte, or_true, true_or, or_self, or_false, false_or]; try rw [putC_same hW])
  · skip
    refine lv_aload_n hx hb dX4_signHere_7 rfl (lv_at hl 0 rfl) ?_
    refine gt_X4_28 hc dX4_signHere_8 hM hW.te rfl ?_
    refine lv_aload_n hx hb dX4_signHere_11 rfl (lv_at hl 0 rfl) ?_
    refine gt_X4_24 hc dX4_signHere_12 hM hW.te rfl ?_
    refine lv_icmp_ge (tgt := 42) hx hb dX4_signHere_15 (by decide) (fun c_15 => ?_) (fun c_15 => ?_)
    · skip
      refine lv_bipush (v := 32) hx hb dX4_signHere_42 (by decide) ?_
      exact k_zret hc hr dX4_signHere_44 hM hS (by first | rfl | exact ht _) (Nat.le_of_ble_eq_true rfl) (Nat.le_of_ble_eq_true rfl) (by simp only [sgH, tIn, eq_false c_4, eq_true c_15, not_false_eq_true, not_true_eq_false, and_true, true_and, and_false, false_and, and_self, ↓reduceIte, or_true, true_or, or_self, or_false, false_or]; try rw [putC_same hW])
    · skip
      refine lv_aload_n hx hb dX4_signHere_18 rfl (lv_at hl 0 rfl) ?_
      refine gt_X4_28 hc dX4_signHere_19 hM hW.te rfl ?_
      refine lv_aload_n hx hb dX4_signHere_22 rfl (lv_at hl 0 rfl) ?_
      refine gt_X4_20 hc dX4_signHere_23 hM hW.te rfl ?_
      refine k_alenC hc hM hW.sg dX4_signHere_26 ?_
      refine lv_icmp_ge (tgt := 42) hx hb dX4_signHere_27 (by decide) (fun c_27 => ?_) (fun c_27 => ?_)
      · skip
        refine lv_bipush (v := 32) hx hb dX4_signHere_42 (by decide) ?_
        exact k_zret hc hr dX4_signHere_44 hM hS (by first | rfl | exact ht _) (Nat.le_of_ble_eq_true rfl) (Nat.le_of_ble_eq_true rfl) (by simp only [sgH, tIn, eq_false c_4, eq_false c_15, eq_true c_27, not_false_eq_true, not_true_eq_false, and_true, true_and, and_false, false_and, and_self, ↓reduceIte, or_true, true_or, or_self, or_false, false_or]; try rw [putC_same hW])
      · skip
        refine lv_aload_n hx hb dX4_signHere_30 rfl (lv_at hl 0 rfl) ?_
        refine gt_X4_20 hc dX4_signHere_31 hM hW.te rfl ?_
        refine lv_aload_n hx hb dX4_signHere_34 rfl (lv_at hl 0 rfl) ?_
        refine gt_X4_28 hc dX4_signHere_35 hM hW.te rfl ?_
        refine k_cald hc hM hW.sg (in_of (by decide) c_4 c_27) dX4_signHere_38 ?_
        refine lv_goto (tgt := 44) hx hb dX4_signHere_39 (by decide) ?_
        exact k_zret hc hr dX4_signHere_44 hM hS (by first | rfl | exact ht _) (Nat.le_of_ble_eq_true rfl) (Nat.le_of_ble_eq_true rfl) (by simp only [sgH, tIn, eq_false c_4, eq_false c_15, eq_false c_27, not_false_eq_true, not_true_eq_false, and_true, true_and, and_false, false_and, and_self, ↓reduceIte, or_true, true_or, or_self, or_false, false_or]; try rw [putC_same hW])
set_option maxHeartbeats 4000000 in
set_option maxRecDepth 100000 in
theorem c_X4_formOf (l : Launch) (hlf : l.stackTraces = false) (g : GC) (M : HM) (v : Int32) : KM g l yX4_formOf cX4_formOf 1 (some (.object "java/lang/String")) 1 0 0 [.int v] M (.inl (some (.ref (g.2.2.2.1 (fmI v))), M)) := by
  refine k_meth hlf (by decide) (Nat.le_of_ble_eq_true rfl) fun p e s m below meth c ls hc hr hnx hM hS hl => ?_
  have hc : Cx g p l s m [.int v].toArray meth c cX4_formOf 1 RX4 := hc
  have hx := hc.1
  have hb := hc.2.1
  have hl : lv_has ls 1 [(0, .int v)] := hl
  refine lv_iload_n hx hb dX4_formOf_0 rfl (lv_at hl 0 rfl) ?_
  by_cases c_1_98 : v = 98
  · skip
    have e_1 : v.toInt = 98 := by rw [c_1_98]; rfl
    refine lv_tableIn (tgt := 110) hx hb dX4_formOf_1 (by rw [e_1]; decide) (by rw [e_1]; decide) (by rw [e_1]; rfl) (by decide) ?_
    refine va_ldcS hx hb hc.2.2.2.1 (k_strN hc 2 tx_2) dX4_formOf_110 ?_
    exact k_aret hc hr dX4_formOf_112 hM hS (Or.inr ⟨_, rfl⟩) (Nat.le_of_ble_eq_true rfl) (Nat.le_of_ble_eq_true rfl) (by simp only [fmI, eq_true c_1_98, not_false_eq_true, not_true_eq_false, and_true, true_and, and_false, false_and, and_self, ↓reduceIte, or_true, true_or, or_self, or_false, false_or])
  by_cases c_1_100 : v = 100
  · skip
    have e_1 : v.toInt = 100 := by rw [c_1_100]; rfl
    refine lv_tableIn (tgt := 119) hx hb dX4_formOf_1 (by rw [e_1]; decide) (by rw [e_1]; decide) (by rw [e_1]; rfl) (by decide) ?_
    refine va_ldcS hx hb hc.2.2.2.1 (k_strN hc 5 tx_5) dX4_formOf_119 ?_
    exact k_aret hc hr dX4_formOf_121 hM hS (Or.inr ⟨_, rfl⟩) (Nat.le_of_ble_eq_true rfl) (Nat.le_of_ble_eq_true rfl) (by simp only [fmI, eq_false c_1_98, eq_true c_1_100, not_false_eq_true, not_true_eq_false, and_true, true_and, and_false, false_and, and_self, ↓reduceIte, or_true, true_or, or_self, or_false, false_or])
  by_cases c_1_101 : v = 101
  · skip
    have e_1 : v.toInt = 101 := by rw [c_1_101]; rfl
    refine lv_tableIn (tgt := 107) hx hb dX4_formOf_1 (by rw [e_1]; decide) (by rw [e_1]; decide) (by rw [e_1]; rfl) (by decide) ?_
    refine va_ldcS hx hb hc.2.2.2.1 (k_strN hc 1 tx_1) dX4_formOf_107 ?_
    exact k_aret hc hr dX4_formOf_109 hM hS (Or.inr ⟨_, rfl⟩) (Nat.le_of_ble_eq_true rfl) (Nat.le_of_ble_eq_true rfl) (by simp only [fmI, eq_false c_1_98, eq_false c_1_100, eq_true c_1_101, not_false_eq_true, not_true_eq_false, and_true, true_and, and_false, false_and, and_self, ↓reduceIte, or_true, true_or, or_self, or_false, false_or])
  by_cases c_1_108 : v = 108
  · skip
    have e_1 : v.toInt = 108 := by rw [c_1_108]; rfl
    refine lv_tableIn (tgt := 116) hx hb dX4_formOf_1 (by rw [e_1]; decide) (by rw [e_1]; decide) (by rw [e_1]; rfl) (by decide) ?_
    refine va_ldcS hx hb hc.2.2.2.1 (k_strN hc 4 tx_4) dX4_formOf_116 ?_
    exact k_aret hc hr dX4_formOf_118 hM hS (Or.inr ⟨_, rfl⟩) (Nat.le_of_ble_eq_true rfl) (Nat.le_of_ble_eq_true rfl) (by simp only [fmI, eq_false c_1_98, eq_false c_1_100, eq_false c_1_101, eq_true c_1_108, not_false_eq_true, not_true_eq_false, and_true, true_and, and_false, false_and, and_self, ↓reduceIte, or_true, true_or, or_self, or_false, false_or])
  by_cases c_1_115 : v = 115
  · skip
    have e_1 : v.toInt = 115 := by rw [c_1_115]; rfl
    refine lv_tableIn (tgt := 104) hx hb dX4_formOf_1 (by rw [e_1]; decide) (by rw [e_1]; decide) (by rw [e_1]; rfl) (by decide) ?_
    refine va_ldcS hx hb hc.2.2.2.1 (k_strN hc 0 tx_0) dX4_formOf_104 ?_
    exact k_aret hc hr dX4_formOf_106 hM hS (Or.inr ⟨_, rfl⟩) (Nat.le_of_ble_eq_true rfl) (Nat.le_of_ble_eq_true rfl) (by simp only [fmI, eq_false c_1_98, eq_false c_1_100, eq_false c_1_101, eq_false c_1_108, eq_true c_1_115, not_false_eq_true, not_true_eq_false, and_true, true_and, and_false, false_and, and_self, ↓reduceIte, or_true, true_or, or_self, or_false, false_or])
  by_cases c_1_116 : v = 116
  · skip
    have e_1 : v.toInt = 116 := by rw [c_1_116]; rfl
    refine lv_tableIn (tgt := 113) hx hb dX4_formOf_1 (by rw [e_1]; decide) (by rw [e_1]; decide) (by rw [e_1]; rfl) (by decide) ?_
    refine va_ldcS hx hb hc.2.2.2.1 (k_strN hc 3 tx_3) dX4_formOf_113 ?_
    exact k_aret hc hr dX4_formOf_115 hM hS (Or.inr ⟨_, rfl⟩) (Nat.le_of_ble_eq_true rfl) (Nat.le_of_ble_eq_true rfl) (by simp only [fmI, eq_false c_1_98, eq_false c_1_100, eq_false c_1_101, eq_false c_1_108, eq_false c_1_115, eq_true c_1_116, not_false_eq_true, not_true_eq_false, and_true, true_and, and_false, false_and, and_self, ↓reduceIte, or_true, true_or, or_self, or_false, false_or])
  by_cases c_1_119 : v = 119
  · skip
    have e_1 : v.toInt = 119 := by rw [c_1_119]; rfl
    refine lv_tableIn (tgt := 122) hx hb dX4_formOf_1 (by rw [e_1]; decide) (by rw [e_1]; decide) (by rw [e_1]; rfl) (by decide) ?_
    refine va_ldcS hx hb hc.2.2.2.1 (k_strN hc 6 tx_6) dX4_formOf_122 ?_
    exact k_aret hc hr dX4_formOf_124 hM hS (Or.inr ⟨_, rfl⟩) (Nat.le_of_ble_eq_true rfl) (Nat.le_of_ble_eq_true rfl) (by simp only [fmI, eq_false c_1_98, eq_false c_1_100, eq_false c_1_101, eq_false c_1_108, eq_false c_1_115, eq_false c_1_116, eq_true c_1_119, not_false_eq_true, not_true_eq_false, and_true, true_and, and_false, false_and, and_self, ↓reduceIte, or_true, true_or, or_self, or_false, false_or])
  have t_1 : (v.toInt < 98 ∨ 119 < v.toInt) ∨ (¬ v.toInt < 98 ∧ ¬ 119 < v.toInt ∧ (#[(109 : Int), (124 : Int), (118 : Int), (106 : Int), (124 : Int), (124 : Int), (124 : Int), (124 : Int), (124 : Int), (124 : Int), (115 : Int), (124 : Int), (124 : Int), (124 : Int), (124 : Int), (124 : Int), (124 : Int), (103 : Int), (112 : Int), (124 : Int), (124 : Int), (121 : Int)] : Array Int)[(v.toInt - 98).toNat]? = some 124) := by
    by_cases h1 : v.toInt < 98
    · exact Or.inl (Or.inl h1)
    by_cases h2 : 119 < v.toInt
    · exact Or.inl (Or.inr h2)
    exact Or.inr ⟨h1, h2, tab_df (n := 22) (exc := [0, 2, 3, 10, 17, 18, 21]) (by decide) h1 h2 (by decide) (exc_c (tab_ne c_1_98 (by decide) h1) (exc_c (tab_ne c_1_100 (by decide) h1) (exc_c (tab_ne c_1_101 (by decide) h1) (exc_c (tab_ne c_1_108 (by decide) h1) (exc_c (tab_ne c_1_115 (by decide) h1) (exc_c (tab_ne c_1_116 (by decide) h1) (exc_c (tab_ne c_1_119 (by decide) h1) exc_n)))))))⟩
  refine k_tabDf (tgt := 125) hx hb dX4_formOf_1 t_1 (by decide) ?_
  refine va_ldcS hx hb hc.2.2.2.1 (k_strN hc 7 tx_7) dX4_formOf_125 ?_
  exact k_aret hc hr dX4_formOf_127 hM hS (Or.inr ⟨_, rfl⟩) (Nat.le_of_ble_eq_true rfl) (Nat.le_of_ble_eq_true rfl) (by simp only [fmI, eq_false c_1_98, eq_false c_1_100, eq_false c_1_101, eq_false c_1_108, eq_false c_1_115, eq_false c_1_116, eq_false c_1_119, not_false_eq_true, not_true_eq_false, and_true, true_and, and_false, false_and, and_self, ↓reduceIte, or_true, true_or, or_self, or_false, false_or])
set_option maxHeartbeats 4000000 in
set_option maxRecDepth 100000 in
theorem c_X4_readDigit (l : Launch) (hlf : l.stackTraces = false) (g : GC) (M : HM) (x : Nat) (cs : CS) (hW : ClsAt g M x cs) (ht : sgOk cs) : KM g l yX4_readDigit cX4_readDigit 2 (some .int) 2 0 0 [.ref (x + 190)] M (.inl (some (.int (dgV cs)), (putC g M x (dgS cs)))) := by
  refine k_meth hlf (by decide) (Nat.le_of_ble_eq_true rfl) fun p e s m below meth c ls hc hr hnx hM hS hl => ?_
  have hc : Cx g p l s m [.ref (x + 190)].toArray meth c cX4_readDigit 2 RX4 := hc
  have hx := hc.1
  have hb := hc.2.1
  have hl : lv_has ls 2 [(0, .ref (x + 190))] := hl
  refine lv_aload_n hx hb dX4_readDigit_0 rfl (lv_at hl 0 rfl) ?_
  refine k_V1 hc [] cw_X4_49 rfl dX4_readDigit_1 (c_X4_signHere l hlf g _ x cs hW (by assumption)) hW.te hM hS hl.1 rfl rfl ⟨Nat.le_of_ble_eq_true rfl, Nat.le_of_ble_eq_true rfl⟩ ⟨Nat.le_of_ble_eq_true rfl, Nat.le_of_ble_eq_true rfl⟩ (Nat.le_of_ble_eq_true rfl) (fun H locs hM hS => ?_)
  refine lv_istore_n (lv' := [(1, .int (sgH cs)), (0, .ref (x + 190))]) hx hb dX4_readDigit_4 rfl hl (by decide) rfl (fun ls hl => ?_)
  refine lv_iload_n hx hb dX4_readDigit_5 rfl (lv_at hl 0 rfl) ?_
  refine lv_bipush (v := 48) hx hb dX4_readDigit_6 (by decide) ?_
  refine lv_icmp_lt (tgt := 17) hx hb dX4_readDigit_8 (by decide) (fun c_8 => ?_) (fun c_8 => ?_)
  · skip
    refine lv_iconst (v := (-1)) hx hb dX4_readDigit_17 (by decide) ?_
    exact k_iret hc hr dX4_readDigit_18 hM hS (Nat.le_of_ble_eq_true rfl) (Nat.le_of_ble_eq_true rfl) (by simp only [dgV, dgS, dgP, eq_true c_8, not_false_eq_true, not_true_eq_false, and_true, true_and, and_false, false_and, and_self, ↓reduceIte, or_true, true_or, or_self, or_false, false_or]; try rw [putC_same hW])
  · skip
    refine lv_iload_n hx hb dX4_readDigit_11 rfl (lv_at hl 0 rfl) ?_
    refine lv_bipush (v := 57) hx hb dX4_readDigit_12 (by decide) ?_
    refine lv_icmp_le (tgt := 19) hx hb dX4_readDigit_14 (by decide) (fun c_14 => ?_) (fun c_14 => ?_)
    · skip
      refine lv_aload_n hx hb dX4_readDigit_19 rfl (lv_at hl 1 rfl) ?_
      refine lv_dup hx hb dX4_readDigit_20 rfl ?_
      refine gt_X4_28 hc dX4_readDigit_21 hM hW.te rfl ?_
      refine lv_iconst (v := 1) hx hb dX4_readDigit_24 (by decide) ?_
      refine lv_iadd hx hb dX4_readDigit_25 ?_
      refine pt_X4_28 hc dX4_readDigit_26 hM hS hW.te rfl rfl (Nat.le_of_ble_eq_true rfl) (fun H locs hM hS => ?_)
      have hM := hR.eq hM (putC_te hW 2 (v := ((cs 11 3 2) + 1)) (by decide) te_s2)
      have hW := ClsAt.put (g := g) (M := M) (x := x) (cs := (upS cs 2 ((cs 11 3 2) + 1)))
      refine lv_iload_n hx hb dX4_readDigit_29 rfl (lv_at hl 0 rfl) ?_
      refine lv_bipush (v := 48) hx hb dX4_readDigit_30 (by decide) ?_
      refine lv_isub hx hb dX4_readDigit_32 ?_
      exact k_iret hc hr dX4_readDigit_33 hM hS (Nat.le_of_ble_eq_true rfl) (Nat.le_of_ble_eq_true rfl) (by simp only [dgV, dgS, dgP, eq_false c_8, eq_true c_14, not_false_eq_true, not_true_eq_false, and_true, true_and, and_false, false_and, and_self, ↓reduceIte, or_true, true_or, or_self, or_false, false_or]; try rw [putC_same hW])
    · skip
      refine lv_iconst (v := (-1)) hx hb dX4_readDigit_17 (by decide) ?_
      exact k_iret hc hr dX4_readDigit_18 hM hS (Nat.le_of_ble_eq_true rfl) (Nat.le_of_ble_eq_true rfl) (by simp only [dgV, dgS, dgP, eq_false c_8, eq_false c_14, not_false_eq_true, not_true_eq_false, and_true, true_and, and_false, false_and, and_self, ↓reduceIte, or_true, true_or, or_self, or_false, false_or]; try rw [putC_same hW])
set_option maxHeartbeats 4000000 in
set_option maxRecDepth 100000 in
theorem c_X4_readSign (l : Launch) (hlf : l.stackTraces = false) (g : GC) (M : HM) (x : Nat) (cs : CS) (v : Int32) (hW : ClsAt g M x cs) (ht : sgOk cs) : KM g l yX4_readSign cX4_readSign 2 (some .boolean) 2 0 0 [.ref (x + 190), .int v] M (.inl (some (.int (bI (rsP cs v))), (putC g M x (rsS cs v)))) := by
  refine k_meth hlf (by decide) (Nat.le_of_ble_eq_true rfl) fun p e s m below meth c ls hc hr hnx hM hS hl => ?_
  have hc : Cx g p l s m [.ref (x + 190), .int v].toArray meth c cX4_readSign 2 RX4 := hc
  have hx := hc.1
  have hb := hc.2.1
  have hl : lv_has ls 2 [(0, .ref (x + 190)), (1, .int v)] := hl
  refine lv_aload_n hx hb dX4_readSign_0 rfl (lv_at hl 0 rfl) ?_
  refine k_V1 hc [] cw_X4_49 rfl dX4_readSign_1 (c_X4_signHere l hlf g _ x cs hW (by assumption)) hW.te hM hS hl.1 rfl rfl ⟨Nat.le_of_ble_eq_true rfl, Nat.le_of_ble_eq_true rfl⟩ ⟨Nat.le_of_ble_eq_true rfl, Nat.le_of_ble_eq_true rfl⟩ (Nat.le_of_ble_eq_true rfl) (fun H locs hM hS => ?_)
  refine lv_iload_n hx hb dX4_readSign_4 rfl (lv_at hl 1 rfl) ?_
  refine lv_icmp_eq (tgt := 10) hx hb dX4_readSign_5 (by decide) (fun c_5 => ?_) (fun c_5 => ?_)
  · skip
    refine lv_aload_n hx hb dX4_readSign_10 rfl (lv_at hl 0 rfl) ?_
    refine lv_dup hx hb dX4_readSign_11 rfl ?_
    refine gt_X4_28 hc dX4_readSign_12 hM hW.te rfl ?_
    refine lv_iconst (v := 1) hx hb dX4_readSign_15 (by decide) ?_
    refine lv_iadd hx hb dX4_readSign_16 ?_
    refine pt_X4_28 hc dX4_readSign_17 hM hS hW.te rfl rfl (Nat.le_of_ble_eq_true rfl) (fun H locs hM hS => ?_)
    have hM := hR.eq hM (putC_te hW 2 (v := ((cs 11 3 2) + 1)) (by decide) te_s2)
    have hW := ClsAt.put (g := g) (M := M) (x := x) (cs := (upS cs 2 ((cs 11 3 2) + 1)))
    refine lv_iconst (v := 1) hx hb dX4_readSign_20 (by decide) ?_
    exact k_zret hc hr dX4_readSign_21 hM hS (by first | rfl | exact bI_n) (Nat.le_of_ble_eq_true rfl) (Nat.le_of_ble_eq_true rfl) (by simp only [rsS, rsP, bI, eq_true c_5, not_false_eq_true, not_true_eq_false, and_true, true_and, and_false, false_and, and_self, ↓reduceIte, or_true, true_or, or_self, or_false, false_or]; try rw [putC_same hW])
  · skip
    refine lv_iconst (v := 0) hx hb dX4_readSign_8 (by decide) ?_
    exact k_zret hc hr dX4_readSign_9 hM hS (by first | rfl | exact bI_n) (Nat.le_of_ble_eq_true rfl) (Nat.le_of_ble_eq_true rfl) (by simp only [rsS, rsP, bI, eq_false c_5, not_false_eq_true, not_true_eq_false, and_true, true_and, and_false, false_and, and_self, ↓reduceIte, or_true, true_or, or_self, or_false, false_or]; try rw [putC_same hW])
set_option maxHeartbeats 4000000 in
set_option maxRecDepth 100000 in
theorem c_X4_readNumber (l : Launch) (hlf : l.stackTraces = false) (g : GC) (M : HM) (x : Nat) (cs : CS) (o : Int32) (hW : ClsAt g M x cs) (ht : sgOk cs) : KM g l yX4_readNumber cX4_readNumber 4 (some .boolean) 3 0 0 [.ref (x + 190), .int o] M (.inl (some (.int (bI (rnP cs))), (putC g M x (rnS cs o)))) := by
  refine k_meth hlf (by decide) (Nat.le_of_ble_eq_true rfl) fun p e s m below meth c ls hc hr hnx hM hS hl => ?_
  have hc : Cx g p l s m [.ref (x + 190), .int o].toArray meth c cX4_readNumber 4 RX4 := hc
  have hx := hc.1
  have hb := hc.2.1
  have hl : lv_has ls 4 [(0, .ref (x + 190)), (1, .int o)] := hl
  refine lv_aload_n hx hb dX4_readNumber_0 rfl (lv_at hl 0 rfl) ?_
  refine k_V1 hc [] cw_X4_92 rfl dX4_readNumber_1 (c_X4_readDigit l hlf g _ x cs hW (by assumption)) hW.te hM hS hl.1 rfl rfl ⟨Nat.le_of_ble_eq_true rfl, Nat.le_of_ble_eq_true rfl⟩ ⟨Nat.le_of_ble_eq_true rfl, Nat.le_of_ble_eq_true rfl⟩ (Nat.le_of_ble_eq_true rfl) (fun H locs hM hS => ?_)
  have hW := ClsAt.put (g := g) (M := M) (x := x) (cs := (dgS cs))
  refine lv_istore_n (lv' := [(2, .int (dgV cs)), (0, .ref (x + 190)), (1, .int o)]) hx hb dX4_readNumber_4 rfl hl (by decide) rfl (fun ls hl => ?_)
  refine lv_iload_n hx hb dX4_readNumber_5 rfl (lv_at hl 0 rfl) ?_
  refine lv_iconst (v := (-1)) hx hb dX4_readNumber_6 (by decide) ?_
  refine lv_icmp_ne (tgt := 12) hx hb dX4_readNumber_7 (by decide) (fun c_7 => ?_) (fun c_7 => ?_)
  · skip
    refine lv_iload_n hx hb dX4_readNumber_12 rfl (lv_at hl 2 rfl) ?_
    refine lv_if_eq (tgt := 23) hx hb dX4_readNumber_13 (by decide) (fun c_13 => ?_) (fun c_13 => ?_)
    · skip
      refine lv_iconst (v := (-1)) hx hb dX4_readNumber_23 (by decide) ?_
      refine lv_istore_n (lv' := [(3, .int (-1)), (2, .int (dgV cs)), (0, .ref (x + 190)), (1, .int o)]) hx hb dX4_readNumber_24 rfl hl (by decide) rfl (fun ls hl => ?_)
      refine lv_aload_n hx hb dX4_readNumber_25 rfl (lv_at hl 2 rfl) ?_
      refine gt_X4_14 hc dX4_readNumber_26 hM hW.te rfl ?_
      refine lv_iload_n hx hb dX4_readNumber_29 rfl (lv_at hl 0 rfl) ?_
      refine lv_iconst (v := (-1)) hx hb dX4_readNumber_30 (by decide) ?_
      refine lv_icmp_ne (tgt := 38) hx hb dX4_readNumber_31 (by decide) (fun c_31 => ?_) (fun c_31 => ?_)
      · skip
        exact absurd c_31 (by decide)
      · skip
        refine lv_iload_n hx hb dX4_readNumber_34 rfl (lv_at hl 1 rfl) ?_
        refine lv_goto (tgt := 44) hx hb dX4_readNumber_35 (by decide) ?_
        refine k_V1 hc [.int (dgV cs)] cw_X4_95 rfl dX4_readNumber_44 (c_X3_add l hlf g _ (x + 191) 3 ((dgS cs) 11 3 0) ((dgS cs) 11 0) (dgV cs) hW.nu (by decide)) hW.nu.1 hM hS hl.1 rfl rfl ⟨Nat.le_of_ble_eq_true rfl, Nat.le_of_ble_eq_true rfl⟩ ⟨Nat.le_of_ble_eq_true rfl, Nat.le_of_ble_eq_true rfl⟩ (Nat.le_of_ble_eq_true rfl) (fun H locs hM hS => ?_)
        have hM := hR.eq hM (putC_nu hW)
        have hM := hR.eq hM putC_putC
        have hW := ClsAt.put (g := g) (M := M) (x := x) (cs := (upN (dgS cs) (if rroom 3 ((dgS cs) 11 3 0) then ((dgS cs) 11 3 0) + 1 else ((dgS cs) 11 3 0)) (if rroom 3 ((dgS cs) 11 3 0) then upd ((dgS cs) 11 0) (((dgS cs) 11 3 0)).toNatClampNeg (dgV cs) else ((dgS cs) 11 0))))
        refine lv_pop hx hb dX4_readNumber_47 rfl ?_
        refine lv_iconst (v := 1) hx hb dX4_readNumber_48 (by decide) ?_
        exact k_zret hc hr dX4_readNumber_49 hM hS (by first | rfl | exact bI_n) (Nat.le_of_ble_eq_true rfl) (Nat.le_of_ble_eq_true rfl) (by simp only [rnS, rnP, bI, addS, eq_false c_7, eq_true c_13, eq_true c_31, not_false_eq_true, not_true_eq_false, and_true, true_and, and_false, false_and, and_self, ↓reduceIte, or_true, true_or, or_self, or_false, false_or]; try rw [putC_same hW])
    · skip
      refine lv_aload_n hx hb dX4_readNumber_16 rfl (lv_at hl 1 rfl) ?_
      refine k_V1 hc [] cw_X4_92 rfl dX4_readNumber_17 (c_X4_readDigit l hlf g _ x (dgS cs) hW (sgOk_of ht dgS_1)) hW.te hM hS hl.1 rfl rfl ⟨Nat.le_of_ble_eq_true rfl, Nat.le_of_ble_eq_true rfl⟩ ⟨Nat.le_of_ble_eq_true rfl, Nat.le_of_ble_eq_true rfl⟩ (Nat.le_of_ble_eq_true rfl) (fun H locs hM hS => ?_)
      have hM := hR.eq hM putC_putC
      have hW := ClsAt.put (g := g) (M := M) (x := x) (cs := (dgS (dgS cs)))
      refine lv_goto (tgt := 24) hx hb dX4_readNumber_20 (by decide) ?_
      refine lv_istore_n (lv' := [(3, .int (dgV (dgS cs))), (2, .int (dgV cs)), (0, .ref (x + 190)), (1, .int o)]) hx hb dX4_readNumber_24 rfl hl (by decide) rfl (fun ls hl => ?_)
      refine lv_aload_n hx hb dX4_readNumber_25 rfl (lv_at hl 2 rfl) ?_
      refine gt_X4_14 hc dX4_readNumber_26 hM hW.te rfl ?_
      refine lv_iload_n hx hb dX4_readNumber_29 rfl (lv_at hl 0 rfl) ?_
      refine lv_iconst (v := (-1)) hx hb dX4_readNumber_30 (by decide) ?_
      refine lv_icmp_ne (tgt := 38) hx hb dX4_readNumber_31 (by decide) (fun c_31 => ?_) (fun c_31 => ?_)
      · skip
        refine lv_iload_n hx hb dX4_readNumber_38 rfl (lv_at hl 1 rfl) ?_
        refine lv_bipush (v := 10) hx hb dX4_readNumber_39 (by decide) ?_
        refine lv_imul hx hb dX4_readNumber_41 ?_
        refine lv_iload_n hx hb dX4_readNumber_42 rfl (lv_at hl 0 rfl) ?_
        refine lv_iadd hx hb dX4_readNumber_43 ?_
        refine k_V1 hc [.int (((dgV cs) * 10) + (dgV (dgS cs)))] cw_X4_95 rfl dX4_readNumber_44 (c_X3_add l hlf g _ (x + 191) 3 ((dgS (dgS cs)) 11 3 0) ((dgS (dgS cs)) 11 0) (((dgV cs) * 10) + (dgV (dgS cs))) hW.nu (by decide)) hW.nu.1 hM hS hl.1 rfl rfl ⟨Nat.le_of_ble_eq_true rfl, Nat.le_of_ble_eq_true rfl⟩ ⟨Nat.le_of_ble_eq_true rfl, Nat.le_of_ble_eq_true rfl⟩ (Nat.le_of_ble_eq_true rfl) (fun H locs hM hS => ?_)
        have hM := hR.eq hM (putC_nu hW)
        have hM := hR.eq hM putC_putC
        have hW := ClsAt.put (g := g) (M := M) (x := x) (cs := (upN (dgS (dgS cs)) (if rroom 3 ((dgS (dgS cs)) 11 3 0) then ((dgS (dgS cs)) 11 3 0) + 1 else ((dgS (dgS cs)) 11 3 0)) (if rroom 3 ((dgS (dgS cs)) 11 3 0) then upd ((dgS (dgS cs)) 11 0) (((dgS (dgS cs)) 11 3 0)).toNatClampNeg (((dgV cs) * 10) + (dgV (dgS cs))) else ((dgS (dgS cs)) 11 0))))
        refine lv_pop hx hb dX4_readNumber_47 rfl ?_
        refine lv_iconst (v := 1) hx hb dX4_readNumber_48 (by decide) ?_
        exact k_zret hc hr dX4_readNumber_49 hM hS (by first | rfl | exact bI_n) (Nat.le_of_ble_eq_true rfl) (Nat.le_of_ble_eq_true rfl) (by simp only [rnS, rnP, bI, addS, eq_false c_7, eq_false c_13, eq_false c_31, not_false_eq_true, not_true_eq_false, and_true, true_and, and_false, false_and, and_self, ↓reduceIte, or_true, true_or, or_self, or_false, false_or]; try rw [putC_same hW])
      · skip
        refine lv_iload_n hx hb dX4_readNumber_34 rfl (lv_at hl 1 rfl) ?_
        refine lv_goto (tgt := 44) hx hb dX4_readNumber_35 (by decide) ?_
        refine k_V1 hc [.int (dgV cs)] cw_X4_95 rfl dX4_readNumber_44 (c_X3_add l hlf g _ (x + 191) 3 ((dgS (dgS cs)) 11 3 0) ((dgS (dgS cs)) 11 0) (dgV cs) hW.nu (by decide)) hW.nu.1 hM hS hl.1 rfl rfl ⟨Nat.le_of_ble_eq_true rfl, Nat.le_of_ble_eq_true rfl⟩ ⟨Nat.le_of_ble_eq_true rfl, Nat.le_of_ble_eq_true rfl⟩ (Nat.le_of_ble_eq_true rfl) (fun H locs hM hS => ?_)
        have hM := hR.eq hM (putC_nu hW)
        have hM := hR.eq hM putC_putC
        have hW := ClsAt.put (g := g) (M := M) (x := x) (cs := (upN (dgS (dgS cs)) (if rroom 3 ((dgS (dgS cs)) 11 3 0) then ((dgS (dgS cs)) 11 3 0) + 1 else ((dgS (dgS cs)) 11 3 0)) (if rroom 3 ((dgS (dgS cs)) 11 3 0) then upd ((dgS (dgS cs)) 11 0) (((dgS (dgS cs)) 11 3 0)).toNatClampNeg (dgV cs) else ((dgS (dgS cs)) 11 0))))
        refine lv_pop hx hb dX4_readNumber_47 rfl ?_
        refine lv_iconst (v := 1) hx hb dX4_readNumber_48 (by decide) ?_
        exact k_zret hc hr dX4_readNumber_49 hM hS (by first | rfl | exact bI_n) (Nat.le_of_ble_eq_true rfl) (Nat.le_of_ble_eq_true rfl) (by simp only [rnS, rnP, bI, addS, eq_false c_7, eq_false c_13, eq_true c_31, not_false_eq_true, not_true_eq_false, and_true, true_and, and_false, false_and, and_self, ↓reduceIte, or_true, true_or, or_self, or_false, false_or]; try rw [putC_same hW])
  · skip
    refine lv_iconst (v := 0) hx hb dX4_readNumber_10 (by decide) ?_
    exact k_zret hc hr dX4_readNumber_11 hM hS (by first | rfl | exact bI_n) (Nat.le_of_ble_eq_true rfl) (Nat.le_of_ble_eq_true rfl) (by simp only [rnS, rnP, bI, addS, eq_true c_7, not_false_eq_true, not_true_eq_false, and_true, true_and, and_false, false_and, and_self, ↓reduceIte, or_true, true_or, or_self, or_false, false_or]; try rw [putC_same hW])
set_option maxHeartbeats 4000000 in
set_option maxRecDepth 100000 in
theorem c_X4_readPart (l : Launch) (hlf : l.stackTraces = false) (g : GC) (M : HM) (x : Nat) (cs : CS) (v : Int32) (hW : ClsAt g M x cs) (ht : sgOk cs) : KM g l yX4_readPart cX4_readPart 2 (some .boolean) 4 0 0 [.ref (x + 190), .int v] M (.inl (some (.int (bI (rpP cs v))), (putC g M x (rpS cs v)))) := by
  refine k_meth hlf (by decide) (Nat.le_of_ble_eq_true rfl) fun p e s m below meth c ls hc hr hnx hM hS hl => ?_
  have hc : Cx g p l s m [.ref (x + 190), .int v].toArray meth c cX4_readPart 2 RX4 := hc
  have hx := hc.1
  have hb := hc.2.1
  have hl : lv_has ls 2 [(0, .ref (x + 190)), (1, .int v)] := hl
  refine lv_iload_n hx hb dX4_readPart_0 rfl (lv_at hl 1 rfl) ?_
  refine lv_bipush (v := 49) hx hb dX4_readPart_1 (by decide) ?_
  refine lv_icmp_eq (tgt := 12) hx hb dX4_readPart_3 (by decide) (fun c_3 => ?_) (fun c_3 => ?_)
  · skip
    refine lv_aload_n hx hb dX4_readPart_12 rfl (lv_at hl 0 rfl) ?_
    refine lv_iload_n hx hb dX4_readPart_13 rfl (lv_at hl 1 rfl) ?_
    refine lv_bipush (v := 50) hx hb dX4_readPart_14 (by decide) ?_
    refine lv_icmp_ne (tgt := 23) hx hb dX4_readPart_16 (by decide) (fun c_16 => ?_) (fun c_16 => ?_)
    · skip
      refine lv_iconst (v := 0) hx hb dX4_readPart_23 (by decide) ?_
      refine k_V1 hc [.int 0] cw_X4_88 rfl dX4_readPart_24 (c_X4_readNumber l hlf g _ x cs 0 hW (by assumption)) hW.te hM hS hl.1 rfl rfl ⟨Nat.le_of_ble_eq_true rfl, Nat.le_of_ble_eq_true rfl⟩ ⟨Nat.le_of_ble_eq_true rfl, Nat.le_of_ble_eq_true rfl⟩ (Nat.le_of_ble_eq_true rfl) (fun H locs hM hS => ?_)
      have hW := ClsAt.put (g := g) (M := M) (x := x) (cs := (rnS cs 0))
      exact k_zret hc hr dX4_readPart_27 hM hS bI_n (Nat.le_of_ble_eq_true rfl) (Nat.le_of_ble_eq_true rfl) (by simp only [rpS, rpP, bI, eq_true c_3, eq_false c_16, not_false_eq_true, not_true_eq_false, and_true, true_and, and_false, false_and, and_self, ↓reduceIte, or_true, true_or, or_self, or_false, false_or]; try rw [putC_same hW])
    · skip
      refine lv_iconst (v := 1) hx hb dX4_readPart_19 (by decide) ?_
      refine lv_goto (tgt := 24) hx hb dX4_readPart_20 (by decide) ?_
      refine k_V1 hc [.int 1] cw_X4_88 rfl dX4_readPart_24 (c_X4_readNumber l hlf g _ x cs 1 hW (by assumption)) hW.te hM hS hl.1 rfl rfl ⟨Nat.le_of_ble_eq_true rfl, Nat.le_of_ble_eq_true rfl⟩ ⟨Nat.le_of_ble_eq_true rfl, Nat.le_of_ble_eq_true rfl⟩ (Nat.le_of_ble_eq_true rfl) (fun H locs hM hS => ?_)
      have hW := ClsAt.put (g := g) (M := M) (x := x) (cs := (rnS cs 1))
      exact k_zret hc hr dX4_readPart_27 hM hS bI_n (Nat.le_of_ble_eq_true rfl) (Nat.le_of_ble_eq_true rfl) (by simp only [rpS, rpP, bI, eq_true c_3, eq_true c_16, not_false_eq_true, not_true_eq_false, and_true, true_and, and_false, false_and, and_self, ↓reduceIte, or_true, true_or, or_self, or_false, false_or]; try rw [putC_same hW])
  · skip
    refine lv_iload_n hx hb dX4_readPart_6 rfl (lv_at hl 1 rfl) ?_
    refine lv_bipush (v := 50) hx hb dX4_readPart_7 (by decide) ?_
    refine lv_icmp_ne (tgt := 28) hx hb dX4_readPart_9 (by decide) (fun c_9 => ?_) (fun c_9 => ?_)
    · skip
      refine lv_aload_n hx hb dX4_readPart_28 rfl (lv_at hl 0 rfl) ?_
      refine lv_iload_n hx hb dX4_readPart_29 rfl (lv_at hl 1 rfl) ?_
      refine k_V1 hc [.int v] cw_X4_42 rfl dX4_readPart_30 (c_X4_readSign l hlf g _ x cs v hW (by assumption)) hW.te hM hS hl.1 rfl rfl ⟨Nat.le_of_ble_eq_true rfl, Nat.le_of_ble_eq_true rfl⟩ ⟨Nat.le_of_ble_eq_true rfl, Nat.le_of_ble_eq_true rfl⟩ (Nat.le_of_ble_eq_true rfl) (fun H locs hM hS => ?_)
      have hW := ClsAt.put (g := g) (M := M) (x := x) (cs := (rsS cs v))
      exact k_zret hc hr dX4_readPart_33 hM hS bI_n (Nat.le_of_ble_eq_true rfl) (Nat.le_of_ble_eq_true rfl) (by simp only [rpS, rpP, bI, eq_false c_3, eq_false c_9, not_false_eq_true, not_true_eq_false, and_true, true_and, and_false, false_and, and_self, ↓reduceIte, or_true, true_or, or_self, or_false, false_or]; try rw [putC_same hW])
    · skip
      refine lv_aload_n hx hb dX4_readPart_12 rfl (lv_at hl 0 rfl) ?_
      refine lv_iload_n hx hb dX4_readPart_13 rfl (lv_at hl 1 rfl) ?_
      refine lv_bipush (v := 50) hx hb dX4_readPart_14 (by decide) ?_
      refine lv_icmp_ne (tgt := 23) hx hb dX4_readPart_16 (by decide) (fun c_16 => ?_) (fun c_16 => ?_)
      · skip
        first | exact absurd c_9 c_16 | exact absurd c_16 c_9
      · skip
        refine lv_iconst (v := 1) hx hb dX4_readPart_19 (by decide) ?_
        refine lv_goto (tgt := 24) hx hb dX4_readPart_20 (by decide) ?_
        refine k_V1 hc [.int 1] cw_X4_88 rfl dX4_readPart_24 (c_X4_readNumber l hlf g _ x cs 1 hW (by assumption)) hW.te hM hS hl.1 rfl rfl ⟨Nat.le_of_ble_eq_true rfl, Nat.le_of_ble_eq_true rfl⟩ ⟨Nat.le_of_ble_eq_true rfl, Nat.le_of_ble_eq_true rfl⟩ (Nat.le_of_ble_eq_true rfl) (fun H locs hM hS => ?_)
        have hW := ClsAt.put (g := g) (M := M) (x := x) (cs := (rnS cs 1))
        exact k_zret hc hr dX4_readPart_27 hM hS bI_n (Nat.le_of_ble_eq_true rfl) (Nat.le_of_ble_eq_true rfl) (by simp only [rpS, rpP, bI, eq_false c_3, eq_true c_9, eq_true c_16, not_false_eq_true, not_true_eq_false, and_true, true_and, and_false, false_and, and_self, ↓reduceIte, or_true, true_or, or_self, or_false, false_or]; try rw [putC_same hW])
set_option maxHeartbeats 4000000 in
set_option maxRecDepth 100000 in
theorem c_X4_readCommand (l : Launch) (hlf : l.stackTraces = false) (g : GC) (M : HM) (x : Nat) (cs : CS) (hW : ClsAt g M x cs) (ht : sgOk cs) : KM g l yX4_readCommand cX4_readCommand 3 (some .boolean) 5 0 0 [.ref (x + 190)] M (.inl (some (.int (bI (rcP cs))), (putC g M x (rcS cs)))) := by
  refine k_meth hlf (by decide) (Nat.le_of_ble_eq_true rfl) fun p e s m below meth c ls hc hr hnx hM hS hl => ?_
  have hc : Cx g p l s m [.ref (x + 190)].toArray meth c cX4_readCommand 3 RX4 := hc
  have hx := hc.1
  have hb := hc.2.1
  have hl : lv_has ls 3 [(0, .ref (x + 190))] := hl
  refine lv_aload_n hx hb dX4_readCommand_0 rfl (lv_at hl 0 rfl) ?_
  refine gt_X4_14 hc dX4_readCommand_1 hM hW.te rfl ?_
  refine k_V0 hc [] cw_X4_46 rfl dX4_readCommand_4 (c_X3_clear l hlf g _ (x + 191) 3 (cs 11 3 0) (cs 11 0) hW.nu) hW.nu.1 hM hS hl.1 rfl rfl ⟨Nat.le_of_ble_eq_true rfl, Nat.le_of_ble_eq_true rfl⟩ ⟨Nat.le_of_ble_eq_true rfl, Nat.le_of_ble_eq_true rfl⟩ (Nat.le_of_ble_eq_true rfl) (fun H locs hM hS => ?_)
  have hM := hR.eq hM (putC_nu hW)
  have hW := ClsAt.put (g := g) (M := M) (x := x) (cs := (upN cs 0 (cs 11 0)))
  refine lv_aload_n hx hb dX4_readCommand_7 rfl (lv_at hl 0 rfl) ?_
  refine lv_aload_n hx hb dX4_readCommand_8 rfl (lv_at hl 0 rfl) ?_
  refine k_V1 hc [] cw_X4_49 rfl dX4_readCommand_9 (c_X4_signHere l hlf g _ x (upN cs 0 (cs 11 0)) hW (sgOk_of ht upN_1)) hW.te hM hS hl.1 rfl rfl ⟨Nat.le_of_ble_eq_true rfl, Nat.le_of_ble_eq_true rfl⟩ ⟨Nat.le_of_ble_eq_true rfl, Nat.le_of_ble_eq_true rfl⟩ (Nat.le_of_ble_eq_true rfl) (fun H locs hM hS => ?_)
  refine pt_X4_31 hc dX4_readCommand_12 hM hS hW.te (sgH_ok (sgOk_of ht upN_1)) (sgH_ok (sgOk_of ht upN_1)).fit (Nat.le_of_ble_eq_true rfl) (fun H locs hM hS => ?_)
  have hM := hR.eq hM (putC_te hW 3 (v := (sgH (upN cs 0 (cs 11 0)))) (by decide) te_s3)
  have hM := hR.eq hM putC_putC
  have hW := ClsAt.put (g := g) (M := M) (x := x) (cs := (upS (upN cs 0 (cs 11 0)) 3 (sgH (upN cs 0 (cs 11 0)))))
  have hM : hR g (putC g M x (rc0 cs)) H := hM
  have hW := ClsAt.put (g := g) (M := M) (x := x) (cs := (rc0 cs))
  refine lv_aload_n hx hb dX4_readCommand_15 rfl (lv_at hl 0 rfl) ?_
  refine gt_X4_31 hc dX4_readCommand_16 hM hW.te rfl ?_
  refine k_S1 hc [.int ((rc0 cs) 11 3 3)] cw_X4_53 dX4_readCommand_19 (c_X4_formOf l hlf g _ ((rc0 cs) 11 3 3)) hM hS hl.1 rfl rfl ⟨Nat.le_of_ble_eq_true rfl, Nat.le_of_ble_eq_true rfl⟩ ⟨Nat.le_of_ble_eq_true rfl, Nat.le_of_ble_eq_true rfl⟩ (Nat.le_of_ble_eq_true rfl) (fun H locs hM hS => ?_)
  refine lv_astore_n (lv' := [(1, .ref (g.2.2.2.1 (fmI ((rc0 cs) 11 3 3)))), (0, .ref (x + 190))]) hx hb dX4_readCommand_22 rfl hl (by decide) rfl (fun ls hl => ?_)
  refine lv_iconst (v := 0) hx hb dX4_readCommand_23 (by decide) ?_
  refine lv_istore_n (lv' := [(2, .int 0), (1, .ref (g.2.2.2.1 (fmI ((rc0 cs) 11 3 3)))), (0, .ref (x + 190))]) hx hb dX4_readCommand_24 rfl hl (by decide) rfl (fun ls hl => ?_)
  have lp_25 : ∀ (D k : Nat) (u : CS), ((rcB cs).length) - k < D → k ≤ (rcB cs).length → (sgOk u) → (rcL (rcB cs) (rcB cs).length 0 (rc0 cs) = rcL (rcB cs) ((rcB cs).length - k) k u) → ∀ (ls : Array Slot) (H : Heap) (locs : List Loc), hR g (putC g M x u) H → va_S (gA g) s.heap H locs → lv_has ls 3 [(2, .int (nI k)), (1, .ref (g.2.2.2.1 (fmI ((rc0 cs) 11 3 3)))), (0, .ref (x + 190))] → W p l e (rmOf 5 0 0) s m [.ref (x + 190)].toArray below meth c H locs 0 0 (vx_MQ below (KQ g (.inl (some (.int (bI (rcP cs))), (putC g M x (rcS cs))))) (KX g (.inl (some (.int (bI (rcP cs))), (putC g M x (rcS cs))))) [.ref (x + 190)].toArray s 0 0 (gA g)) (F0 m 25 ls []) := by
    intro D
    induction D with
    | zero => intro k u hD; exact absurd hD (Nat.not_lt_zero _)
    | succ D ih_25 =>
      intro k u hD hk hu hp ls H locs hM hS hl
      have hW := ClsAt.put (g := g) (M := M) (x := x) (cs := u)
      refine lv_iload_n hx hb dX4_readCommand_25 rfl (lv_at hl 0 rfl) ?_
      refine lv_aload_n hx hb dX4_readCommand_26 rfl (lv_at hl 1 rfl) ?_
      refine k_VJ hc [] (fmI_by _) cw_X4_57 dX4_readCommand_27 (c_J0_length l hlf g _ (fmI (rc0 cs 11 3 3)) (rcB cs) (fmI_by _) (fmB_len _)) hM hS hl.1 rfl rfl ⟨Nat.le_of_ble_eq_true rfl, Nat.le_of_ble_eq_true rfl⟩ ⟨Nat.le_of_ble_eq_true rfl, Nat.le_of_ble_eq_true rfl⟩ (Nat.le_of_ble_eq_true rfl) (fun H locs hM hS => ?_)
      refine lv_icmp_ge (tgt := 53) hx hb dX4_readCommand_30 (by decide) (fun c_30 => ?_) (fun c_30 => ?_)
      · skip
        have hb9 : (rcB cs).length < 2 ^ 31 := fmB_len _
        have c_30 := (nI_leI (by omega) (by omega)).mp c_30
        refine lv_aload_n hx hb dX4_readCommand_53 rfl (lv_at hl 1 rfl) ?_
        refine k_VJ hc [] (fmI_by _) cw_X4_69 dX4_readCommand_54 (c_J0_isEmpty l hlf g _ (fmI (rc0 cs 11 3 3)) (rcB cs) (fmI_by _)) hM hS hl.1 rfl rfl ⟨Nat.le_of_ble_eq_true rfl, Nat.le_of_ble_eq_true rfl⟩ ⟨Nat.le_of_ble_eq_true rfl, Nat.le_of_ble_eq_true rfl⟩ (Nat.le_of_ble_eq_true rfl) (fun H locs hM hS => ?_)
        refine lv_if_ne (tgt := 64) hx hb dX4_readCommand_57 (by decide) (fun c_57 => ?_) (fun c_57 => ?_)
        · skip
          have c_57 := bI_ne.mp c_57
          refine lv_iconst (v := 0) hx hb dX4_readCommand_64 (by decide) ?_
          exact k_zret hc hr dX4_readCommand_65 hM hS (by first | rfl | exact bI_n) (Nat.le_of_ble_eq_true rfl) (Nat.le_of_ble_eq_true rfl) (by simp only [bI, rcP, rcS, show rcL (rcB cs) (rcB cs).length 0 (rc0 cs) = (true, u) from by rw [hp, show (rcB cs).length - k = 0 by omega, rcL], eq_true c_30, eq_true c_57, not_false_eq_true, not_true_eq_false, and_true, true_and, and_false, false_and, and_self, ↓reduceIte, or_true, true_or, or_self, or_false, false_or])
        · skip
          have c_57 := bI_eq.mp c_57
          refine lv_iconst (v := 1) hx hb dX4_readCommand_60 (by decide) ?_
          refine lv_goto (tgt := 65) hx hb dX4_readCommand_61 (by decide) ?_
          exact k_zret hc hr dX4_readCommand_65 hM hS (by first | rfl | exact bI_n) (Nat.le_of_ble_eq_true rfl) (Nat.le_of_ble_eq_true rfl) (by simp only [bI, rcP, rcS, show rcL (rcB cs) (rcB cs).length 0 (rc0 cs) = (true, u) from by rw [hp, show (rcB cs).length - k = 0 by omega, rcL], eq_true c_30, eq_false c_57, not_false_eq_true, not_true_eq_false, and_true, true_and, and_false, false_and, and_self, ↓reduceIte, or_true, true_or, or_self, or_false, false_or])
      · skip
        have hb9 : (rcB cs).length < 2 ^ 31 := fmB_len _
        have c_30 : ¬ (rcB cs).length ≤ k := fun h => c_30 ((nI_leI (by omega) (by omega)).mpr h)
        refine lv_aload_n hx hb dX4_readCommand_33 rfl (lv_at hl 2 rfl) ?_
        refine lv_aload_n hx hb dX4_readCommand_34 rfl (lv_at hl 1 rfl) ?_
        refine lv_iload_n hx hb dX4_readCommand_35 rfl (lv_at hl 0 rfl) ?_
        refine k_VJ hc [.int (nI k)] (fmI_by _) cw_X4_62 dX4_readCommand_36 (c_J0_charAt l hlf g _ (fmI (rc0 cs 11 3 3)) (rcB cs) k (fmI_by _) (fmB_len _) (by omega)) hM hS hl.1 rfl rfl ⟨Nat.le_of_ble_eq_true rfl, Nat.le_of_ble_eq_true rfl⟩ ⟨Nat.le_of_ble_eq_true rfl, Nat.le_of_ble_eq_true rfl⟩ (Nat.le_of_ble_eq_true rfl) (fun H locs hM hS => ?_)
        refine k_V1 hc [.int (chI (rcB cs) k)] cw_X4_66 rfl dX4_readCommand_39 (c_X4_readPart l hlf g _ x u (chI (rcB cs) k) hW hu) hW.te hM hS hl.1 rfl rfl ⟨Nat.le_of_ble_eq_true rfl, Nat.le_of_ble_eq_true rfl⟩ ⟨Nat.le_of_ble_eq_true rfl, Nat.le_of_ble_eq_true rfl⟩ (Nat.le_of_ble_eq_true rfl) (fun H locs hM hS => ?_)
        have hM := hR.eq hM putC_putC
        have hW := ClsAt.put (g := g) (M := M) (x := x) (cs := (rpS u (chI (rcB cs) k)))
        refine lv_if_ne (tgt := 47) hx hb dX4_readCommand_42 (by decide) (fun c_42 => ?_) (fun c_42 => ?_)
        · skip
          have c_42 := bI_ne.mp c_42
          refine lv_iinc (v := (nI (k + 1))) (lv' := [(2, .int (nI (k + 1))), (1, .ref (g.2.2.2.1 (fmI ((rc0 cs) 11 3 3)))), (0, .ref (x + 190))]) hx hb dX4_readCommand_47 hl (k := 0) rfl (k_inc1 _) (by decide) rfl (fun ls hl => ?_)
          refine lv_goto (tgt := 25) hx hb dX4_readCommand_50 (by decide) ?_
          exact ih_25 (k + 1) (rpS u (chI (rcB cs) k)) (by omega) (by omega) (sgOk_of hu rpS_1) (by rw [hp, show (rcB cs).length - k = ((rcB cs).length - (k + 1)) + 1 by omega, rcL, if_pos c_42]) ls _ _ hM hS (lv_sub hl [0, 1, 2] rfl)
        · skip
          have c_42 := bI_eq.mp c_42
          refine lv_iconst (v := 0) hx hb dX4_readCommand_45 (by decide) ?_
          exact k_zret hc hr dX4_readCommand_46 hM hS (by first | rfl | exact bI_n) (Nat.le_of_ble_eq_true rfl) (Nat.le_of_ble_eq_true rfl) (by simp only [bI, rcP, rcS, show rcL (rcB cs) (rcB cs).length 0 (rc0 cs) = (false, rpS u (chI (rcB cs) k)) from by rw [hp, show (rcB cs).length - k = ((rcB cs).length - (k + 1)) + 1 by omega, rcL, if_neg c_42], Bool.false_eq_true, not_false_eq_true, not_true_eq_false, and_true, true_and, and_false, false_and, and_self, ↓reduceIte, or_true, true_or, or_self, or_false, false_or])
  have z_2 : 0 = (nI 0) := rfl
  have hl := lv_chg (lv_sub hl [0, 1, 2] rfl) z_2
  exact lp_25 ((rcB cs).length + 1) 0 (rc0 cs) (by omega) (by omega) (sgOk_of ht rc0_1) (by rw [Nat.sub_zero]) ls _ _ hM hS (lv_sub hl [0, 1, 2] rfl)
set_option maxHeartbeats 4000000 in
set_option maxRecDepth 100000 in
theorem c_X4_countCommands (l : Launch) (hlf : l.stackTraces = false) (g : GC) (M : HM) (x : Nat) (cs : CS) (hW : ClsAt g M x cs) (ht : sgOk cs) : KM g l yX4_countCommands cX4_countCommands 2 (some .int) 6 0 0 [.ref (x + 190)] M (.inl (some (.int (ccV cs)), (putC g M x (ccS cs)))) := by
  refine k_meth hlf (by decide) (Nat.le_of_ble_eq_true rfl) fun p e s m below meth c ls hc hr hnx hM hS hl => ?_
  have hc : Cx g p l s m [.ref (x + 190)].toArray meth c cX4_countCommands 2 RX4 := hc
  have hx := hc.1
  have hb := hc.2.1
  have hl : lv_has ls 2 [(0, .ref (x + 190))] := hl
  refine lv_aload_n hx hb dX4_countCommands_0 rfl (lv_at hl 0 rfl) ?_
  refine k_V0 hc [] cw_X4_35 rfl dX4_countCommands_1 (c_X4_rewind l hlf g _ x cs hW) hW.te hM hS hl.1 rfl rfl ⟨Nat.le_of_ble_eq_true rfl, Nat.le_of_ble_eq_true rfl⟩ ⟨Nat.le_of_ble_eq_true rfl, Nat.le_of_ble_eq_true rfl⟩ (Nat.le_of_ble_eq_true rfl) (fun H locs hM hS => ?_)
  have hW := ClsAt.put (g := g) (M := M) (x := x) (cs := (upS cs 2 0))
  refine lv_iconst (v := 1) hx hb dX4_countCommands_4 (by decide) ?_
  refine lv_istore_n (lv' := [(1, .int 1), (0, .ref (x + 190))]) hx hb dX4_countCommands_5 rfl hl (by decide) rfl (fun ls hl => ?_)
  have lp_6 : ∀ (D k : Nat) (u : CS), 60 - k < D → k ≤ 60 → (sgOk u) → (ccL 60 1 (upS cs 2 0) = ccL (60 - k) (k + 1) u) → ∀ (ls : Array Slot) (H : Heap) (locs : List Loc), hR g (putC g M x u) H → va_S (gA g) s.heap H locs → lv_has ls 2 [(1, .int (nI (k + 1))), (0, .ref (x + 190))] → W p l e (rmOf 6 0 0) s m [.ref (x + 190)].toArray below meth c H locs 0 0 (vx_MQ below (KQ g (.inl (some (.int (ccV cs)), (putC g M x (ccS cs))))) (KX g (.inl (some (.int (ccV cs)), (putC g M x (ccS cs))))) [.ref (x + 190)].toArray s 0 0 (gA g)) (F0 m 6 ls []) := by
    intro D
    induction D with
    | zero => intro k u hD; exact absurd hD (Nat.not_lt_zero _)
    | succ D ih_6 =>
      intro k u hD hk hu hp ls H locs hM hS hl
      have hW := ClsAt.put (g := g) (M := M) (x := x) (cs := u)
      refine lv_iload_n hx hb dX4_countCommands_6 rfl (lv_at hl 0 rfl) ?_
      refine lv_bipush (v := 60) hx hb dX4_countCommands_7 (by decide) ?_
      refine lv_icmp_gt (tgt := 51) hx hb dX4_countCommands_9 (by decide) (fun c_9 => ?_) (fun c_9 => ?_)
      · skip
        have c_9 := (k_ltL (b := 60) rfl (by decide) (by omega)).mp c_9
        refine lv_iconst (v := (-1)) hx hb dX4_countCommands_51 (by decide) ?_
        exact k_iret hc hr dX4_countCommands_52 hM hS (Nat.le_of_ble_eq_true rfl) (Nat.le_of_ble_eq_true rfl) (by rw [ccV, ccS, hp, show 60 - k = 0 by omega, ccL])
      · skip
        have c_9 : ¬ 60 < k + 1 := fun h => c_9 ((k_ltL (b := 60) rfl (by decide) (by omega)).mpr h)
        refine lv_aload_n hx hb dX4_countCommands_12 rfl (lv_at hl 1 rfl) ?_
        refine k_V1 hc [] cw_X4_38 rfl dX4_countCommands_13 (c_X4_readCommand l hlf g _ x u hW hu) hW.te hM hS hl.1 rfl rfl ⟨Nat.le_of_ble_eq_true rfl, Nat.le_of_ble_eq_true rfl⟩ ⟨Nat.le_of_ble_eq_true rfl, Nat.le_of_ble_eq_true rfl⟩ (Nat.le_of_ble_eq_true rfl) (fun H locs hM hS => ?_)
        have hM := hR.eq hM putC_putC
        have hW := ClsAt.put (g := g) (M := M) (x := x) (cs := (rcS u))
        refine lv_if_ne (tgt := 21) hx hb dX4_countCommands_16 (by decide) (fun c_16 => ?_) (fun c_16 => ?_)
        · skip
          have c_16 := bI_ne.mp c_16
          refine lv_aload_n hx hb dX4_countCommands_21 rfl (lv_at hl 1 rfl) ?_
          refine gt_X4_28 hc dX4_countCommands_22 hM hW.te rfl ?_
          refine lv_aload_n hx hb dX4_countCommands_25 rfl (lv_at hl 1 rfl) ?_
          refine gt_X4_24 hc dX4_countCommands_26 hM hW.te rfl ?_
          refine lv_icmp_lt (tgt := 34) hx hb dX4_countCommands_29 (by decide) (fun c_29 => ?_) (fun c_29 => ?_)
          · skip
            refine lv_aload_n hx hb dX4_countCommands_34 rfl (lv_at hl 1 rfl) ?_
            refine lv_bipush (v := 59) hx hb dX4_countCommands_35 (by decide) ?_
            refine k_V1 hc [.int 59] cw_X4_42 rfl dX4_countCommands_37 (c_X4_readSign l hlf g _ x (rcS u) 59 hW (sgOk_of hu rcS_1)) hW.te hM hS hl.1 rfl rfl ⟨Nat.le_of_ble_eq_true rfl, Nat.le_of_ble_eq_true rfl⟩ ⟨Nat.le_of_ble_eq_true rfl, Nat.le_of_ble_eq_true rfl⟩ (Nat.le_of_ble_eq_true rfl) (fun H locs hM hS => ?_)
            have hM := hR.eq hM putC_putC
            have hW := ClsAt.put (g := g) (M := M) (x := x) (cs := (rsS (rcS u) 59))
            refine lv_if_ne (tgt := 45) hx hb dX4_countCommands_40 (by decide) (fun c_40 => ?_) (fun c_40 => ?_)
            · skip
              have c_40 := bI_ne.mp c_40
              refine lv_iinc (v := (nI ((k + 1) + 1))) (lv' := [(1, .int (nI ((k + 1) + 1))), (0, .ref (x + 190))]) hx hb dX4_countCommands_45 hl (k := 0) rfl (k_inc1 _) (by decide) rfl (fun ls hl => ?_)
              refine lv_goto (tgt := 6) hx hb dX4_countCommands_48 (by decide) ?_
              exact ih_6 (k + 1) (rsS (rcS u) 59) (by omega) (by omega) (sgOk_of hu (rsS_1.trans rcS_1)) (by rw [hp, show 60 - k = (60 - (k + 1)) + 1 by omega, ccL]; rw [if_neg (fun h => h c_16), if_neg (fun h => h c_29), if_neg (fun h => h c_40)]) ls _ _ hM hS (lv_sub hl [0, 1] rfl)
            · skip
              have c_40 := bI_eq.mp c_40
              refine lv_iconst (v := (-1)) hx hb dX4_countCommands_43 (by decide) ?_
              exact k_iret hc hr dX4_countCommands_44 hM hS (Nat.le_of_ble_eq_true rfl) (Nat.le_of_ble_eq_true rfl) (by rw [ccV, ccS, hp, show 60 - k = (60 - (k + 1)) + 1 by omega, ccL]; simp only [eq_false c_9, eq_true c_16, eq_true c_29, eq_false c_40, not_true_eq_false, not_false_eq_true, ↓reduceIte])
          · skip
            refine lv_iload_n hx hb dX4_countCommands_32 rfl (lv_at hl 0 rfl) ?_
            exact k_iret hc hr dX4_countCommands_33 hM hS (Nat.le_of_ble_eq_true rfl) (Nat.le_of_ble_eq_true rfl) (by rw [ccV, ccS, hp, show 60 - k = (60 - (k + 1)) + 1 by omega, ccL]; simp only [eq_false c_9, eq_true c_16, eq_false c_29, not_true_eq_false, not_false_eq_true, ↓reduceIte])
        · skip
          have c_16 := bI_eq.mp c_16
          refine lv_iconst (v := (-1)) hx hb dX4_countCommands_19 (by decide) ?_
          exact k_iret hc hr dX4_countCommands_20 hM hS (Nat.le_of_ble_eq_true rfl) (Nat.le_of_ble_eq_true rfl) (by rw [ccV, ccS, hp, show 60 - k = (60 - (k + 1)) + 1 by omega, ccL]; simp only [eq_false c_9, eq_false c_16, not_true_eq_false, not_false_eq_true, ↓reduceIte])
  have z_1 : 1 = (nI (0 + 1)) := rfl
  have hl := lv_chg (lv_sub hl [0, 1] rfl) z_1
  exact lp_6 (60 + 1) 0 (upS cs 2 0) (by omega) (by omega) (sgOk_of ht upS_1) rfl ls _ _ hM hS (lv_sub hl [0, 1] rfl)
