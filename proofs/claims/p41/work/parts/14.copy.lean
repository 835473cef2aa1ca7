/-! System.arraycopy over the functional heap; Row.copyFrom, Flat.copyFrom -/
section KCOPY
variable {p : Program} {l : Launch} {e : Env} {R : Room} {s : State} {m : MethodId} {args : Array Value} {below : List Frame} {meth : Method} {c : Code} {H : Heap} {locs : List Loc} {cells slots : Nat} {Q : State → Prop}
variable {cc : ByteArray} {pc nL : Nat} {ls : Array Slot} {rest : List Value} {g : GC} {M : HM} {own : String}
theorem k_copyi (hc : Cx g p l s m args meth c cc nL own) {index : Nat} (hq : Cond.methodLink own index arraycopyName ∈ lw_all) {a a0 n0 n1 : Nat} {f f1 : Nat → Int32} (ha0 : M a0 = some (.inl (gI g, n0, .inl f))) (ha1 : M a = some (.inl (gI g, n1, .inl f1))) (hM : hR g M H) (hS : va_S (gA g) s.heap H locs) (hlz : ls.size = nL)
    {sp dp n : Int32} (h1 : ¬ sp < 0) (h2 : ¬ dp < 0) (h3 : ¬ n < 0) (h4 : sp.toNatClampNeg + n.toNatClampNeg ≤ n0) (h5 : dp.toNatClampNeg + n.toNatClampNeg ≤ n1)
    (hroom : 1 ≤ R.frames ∧ (rest.map fun v => v.category).sum + (nativeFrameWords "java/lang/System" "arraycopy" 5 + 11) ≤ R.locals) (hdg : decode cc pc = .ok (.invokestatic index, 3))
    (kk : ∀ (H1 : Heap) (locs1 : List Loc), hR g (upM M a (.inl (gI g, n1, .inl (va_cpy f f1 sp.toNatClampNeg dp.toNatClampNeg n.toNatClampNeg)))) H1 → va_S (gA g) s.heap H1 locs1 → W p l e R s m args below meth c H1 locs1 cells slots Q (F0 m (pc + 3) ls rest)) : W p l e R s m args below meth c H locs cells slots Q (F0 m pc ls (.int n :: .int dp :: .ref a :: .int sp :: .ref a0 :: rest)) := by
  have nn : ∀ z : Int32, ¬ z < 0 → z.toInt = (z.toNatClampNeg : Int) := by
    intro z hz
    have hz0 : (0 : Int) ≤ z.toInt := by
      have := Int32.not_lt.mp hz
      simpa using Int32.le_iff_toInt_le.mp this
    show z.toInt = ((z.toInt.toNat : Nat) : Int)
    omega
  obtain ⟨hexec, hb, hml0, hown, hts, hE, hlk, hst0⟩ := hc
  have hml : c.maxLocals = ls.size := hml0.trans hlz.symm
  have hK := hE.1
  intro T hT X
  have hc0 : H[a0]? = some (vp_cell (gI g) (n0, .inl f)) := (hM a0 _ ha0).2
  have hc1 : H[a]? = some (vp_cell (gI g) (n1, .inl f1)) := (hM a _ ha1).2
  obtain ⟨-, k0, hk0, cm0, hkk0⟩ := (hK.2 0 _ rfl).1 n0 (fun j => .int (f j))
  obtain ⟨-, k1, hk1, cm1, hkk1⟩ := (hK.2 0 _ rfl).1 n1 (fun j => .int (f1 j))
  obtain ⟨vm', X', step⟩ := X.arraycopy hexec hown (hts _ hq) (hts _ qv_acopy) (hts _ qt_acopy) (hts _ qn_System) (src := a0) (dst := a) (cs := vp_cell (gI g) (n0, .inl f)) (cd := vp_cell (gI g) (n1, .inl f1)) (srcPos := sp) (destPos := dp) (n := n) (by rw [hT]; exact hc0) (by rw [hT]; exact hc1)
    (fun _ h => by cases h) (fun _ h => by cases h) (fun h => by cases h) (fun h => by cases h) hk0 hk1 hkk0 hkk1 (by simp [refKind]) h1 h2 h3
    (by rw [nn sp h1, nn n h3]; show ¬ _ > ((arrV (gI g) n0 (fun j => .int (f j))).slots.size : Int); rw [arrV_size]; omega)
    (by rw [nn dp h2, nn n h3]; show ¬ _ > ((arrV (gI g) n1 (fun j => .int (f1 j))).slots.size : Int); rw [arrV_size]; omega)
    (fun vm₁ _ i hi => by
      have e : (vp_cell (gI g) (n0, .inl f)).slots.getD (sp.toNatClampNeg + i) .null = .int (f (sp.toNatClampNeg + i)) := by
        show (arrV (gI g) n0 (fun j => .int (f j))).slots.getD _ _ = _
        rw [Array.getD_eq_getD_getElem?, arrV_read _ _ (by omega)]
        rfl
      refine ⟨?_, ?_⟩
      · rw [e]
        rfl
      · rw [e]
        exact trivial)
    (g := F0 m pc ls (.int n :: .int dp :: .ref a :: .int sp :: .ref a0 :: rest)) rfl (by rw [hml]) (rest := rest) rfl (by rw [hb]; exact hdg) hroom.1 (by have := hroom.2; show 2 * 0 + _ + _ ≤ _; omega)
  have e1 : copied (vp_cell (gI g) (n0, .inl f)) (vp_cell (gI g) (n1, .inl f1)) sp dp n = vp_cell (gI g) (n1, .inl (va_cpy f f1 sp.toNatClampNeg dp.toNatClampNeg n.toNatClampNeg)) := va_copied (fun z => .int z) (gI g) (gI g) f f1 h4
  rw [e1] at X' step
  have hl : a < H.size := (Array.getElem?_eq_some_iff.mp hc1).1
  have hheap : ((T.setVm vm').setCell a (vp_cell (gI g) (n1, .inl (va_cpy f f1 sp.toNatClampNeg dp.toNatClampNeg n.toNatClampNeg)))).heap = H.setIfInBounds a (vp_cell (gI g) (n1, .inl (va_cpy f f1 sp.toNatClampNeg dp.toNatClampNeg n.toNatClampNeg))) := by rw [← hT]; rfl
  have oq : ∀ q : Nat, q ≠ a → (H.setIfInBounds a (vp_cell (gI g) (n1, .inl (va_cpy f f1 sp.toNatClampNeg dp.toNatClampNeg n.toNatClampNeg))))[q]? = H[q]? := fun q hq => by simp [Array.getElem?_setIfInBounds, Ne.symm hq]
  have hlow : gB g ≤ a := hM.low ha1
  obtain ⟨t, a1, b1⟩ := kk _ _ (hM.put hlow (show (H.setIfInBounds a _)[a]? = some _ by simp [Array.getElem?_setIfInBounds, hl]) oq) ⟨by simp; exact hS.1, fun q g1 g2 => by
      rw [oq q (fun e => g2 (by rw [e]; exact hlow))]
      exact hS.2.1 q g1 g2, fun q hq => by
      rcases List.mem_append.mp hq with h | h
      · exact hS.2.2 q h
      · obtain ⟨z, -, hz⟩ := List.mem_map.mp h
        rw [← hz]
        exact hlow⟩ _ hheap X'
  exact ⟨t, step t a1, b1⟩
end KCOPY
set_option maxHeartbeats 4000000 in
set_option maxRecDepth 100000 in
theorem c_X3_copyFrom (l : Launch) (hlf : l.stackTraces = false) (g : GC) (M : HM) (r r2 n : Nat) (sz sz2 : Int32) (f f2 : Nat → Int32) (hA : RowAt g M r n sz f) (hB : RowAt g M r2 n sz2 f2) (hd : r + 1 < r2 ∨ r2 + 1 < r) (hn : n < 2 ^ 31) : KM g l yX3_copyFrom cX3_copyFrom 2 none 2 0 0 [.ref r, .ref r2] M (.inl (none, putR g M r n sz2 f2)) := by
  refine k_meth hlf (by decide) (Nat.le_of_ble_eq_true rfl) fun p e s m below meth c ls hc hr hnx hM hS hl => ?_
  have hc : Cx g p l s m [.ref r, .ref r2].toArray meth c cX3_copyFrom 2 RX3 := hc
  have hx := hc.1
  have hb := hc.2.1
  have hl : lv_has ls 2 [(0, .ref r), (1, .ref r2)] := hl
  refine lv_aload_n hx hb dX3_copyFrom_0 rfl (lv_at hl 1 rfl) ?_
  refine gt_X3_15 hc dX3_copyFrom_1 hM hB.1 rfl ?_
  refine lv_iconst (v := 0) hx hb dX3_copyFrom_4 (by decide) ?_
  refine lv_aload_n hx hb dX3_copyFrom_5 rfl (lv_at hl 0 rfl) ?_
  refine gt_X3_15 hc dX3_copyFrom_6 hM hA.1 rfl ?_
  refine lv_iconst (v := 0) hx hb dX3_copyFrom_9 (by decide) ?_
  refine lv_aload_n hx hb dX3_copyFrom_10 rfl (lv_at hl 0 rfl) ?_
  refine gt_X3_15 hc dX3_copyFrom_11 hM hA.1 rfl ?_
  refine k_alenI hc hM hA.2 dX3_copyFrom_14 ?_
  refine lv_aload_n hx hb dX3_copyFrom_15 rfl (lv_at hl 1 rfl) ?_
  refine gt_X3_15 hc dX3_copyFrom_16 hM hB.1 rfl ?_
  refine k_alenI hc hM hB.2 dX3_copyFrom_19 ?_
  refine k_min hc q_X3_23 dX3_copyFrom_20 hl.1 ⟨Nat.le_of_ble_eq_true rfl, Nat.le_of_ble_eq_true rfl, Nat.le_of_ble_eq_true rfl, Nat.le_of_ble_eq_true rfl⟩ ?_
  have e : minI (nI n) (nI n) = nI n := by unfold minI; split <;> rfl
  rw [e]
  refine k_copyi hc q_X3_29 hB.2 hA.2 hM hS hl.1 (by decide) (by decide) (nI_pos hn) (by rw [nI_clamp hn]; show 0 + n ≤ n; omega) (by rw [nI_clamp hn]; show 0 + n ≤ n; omega) ⟨Nat.le_of_ble_eq_true rfl, Nat.le_of_ble_eq_true rfl⟩ dX3_copyFrom_23 (fun H locs hM hS => ?_)
  have hM := hR.eq hM (putR_items hA)
  have h2 := (RowAt.put (g := g) (M := M) (r := r) (n := n) (sz := sz) (f := va_cpy f2 f (0 : Int32).toNatClampNeg (0 : Int32).toNatClampNeg (nI n).toNatClampNeg)).2
  have hM := hM.ext (f' := f2) h2 (fun k hk => by rw [nI_clamp hn]; show va_cpy f2 f 0 0 n k = f2 k; exact sb_cpy0 hk)
  have hM := hR.eq hM ((putR_items RowAt.put).trans putR_putR)
  have hA2 := RowAt.put (g := g) (M := M) (r := r) (n := n) (sz := sz) (f := f2)
  have hB2 := hB.far (r2 := r) (n2 := n) (sz2 := sz) (f2 := f2) hd.symm
  refine lv_aload_n hx hb dX3_copyFrom_26 rfl (lv_at hl 0 rfl) ?_
  refine lv_aload_n hx hb dX3_copyFrom_27 rfl (lv_at hl 1 rfl) ?_
  refine gt_X3_9 hc dX3_copyFrom_28 hM hB2.1 rfl ?_
  refine pt_X3_9 hc dX3_copyFrom_31 hM hS hA2.1 rfl rfl (Nat.le_of_ble_eq_true rfl) (fun H locs hM hS => ?_)
  have hM := hR.eq hM ((putR_size hA2 rfl).trans putR_putR)
  exact k_vret hc hr dX3_copyFrom_34 hM hS (Nat.le_of_ble_eq_true rfl) (Nat.le_of_ble_eq_true rfl) rfl
/-- what a Flat's picture shows of its numbers -/
theorem flC_ext {g : GC} {a : Nat} {fl fl2 : FL} (h1 : ∀ k, k < 8 → fl k = fl2 k) (h2 : ∀ k, k < 8 → fl 8 k = fl2 8 k) (h3 : ∀ k, k < 5 → fl 9 k = fl2 9 k) {j : Nat} (hj : j < 17) : flC g a fl j = flC g a fl2 j := by
  unfold flC flO
  rw [h3 0 (by omega), h3 1 (by omega), h3 2 (by omega), h3 3 (by omega), h3 4 (by omega), h2 ((j - 1) / 2) (by omega), h1 ((j - 2) / 2) (by omega)]
theorem putF_ext {g : GC} {M : HM} {a : Nat} {fl fl2 : FL} (h1 : ∀ k, k < 8 → fl k = fl2 k) (h2 : ∀ k, k < 8 → fl 8 k = fl2 8 k) (h3 : ∀ k, k < 5 → fl 9 k = fl2 9 k) : putF g M a fl = putF g M a fl2 := by
  funext q
  unfold putF
  by_cases hq : a ≤ q ∧ q < a + 17
  · rw [if_pos hq, if_pos hq, flC_ext h1 h2 h3 (by omega)]
  · rw [if_neg hq, if_neg hq]
theorem upR_k {fl : FL} {k : Nat} {sz : Int32} {f : Nat → Int32} (hk : k ≠ 8) : upR fl k sz f k = f := by
  unfold upR
  rw [up2_nk hk, up1_at]
theorem upR_8 {fl : FL} {k i : Nat} {sz : Int32} {f : Nat → Int32} (hk : k ≠ 8) : upR fl k sz f 8 i = if i = k then sz else fl 8 i := by
  unfold upR
  by_cases h : i = k
  · rw [if_pos h, h, up2_at]
  · rw [if_neg h, up2_ni h, up1_ne (Ne.symm hk)]
theorem upR_j {fl : FL} {k j : Nat} {sz : Int32} {f : Nat → Int32} (h : j ≠ k) (h8 : j ≠ 8) : upR fl k sz f j = fl j := by
  unfold upR
  rw [up2_nk h8, up1_ne h]
/-- rows 0 to n - 1 of fl2 in fl -/
def rowsOf (fl fl2 : FL) (n : Nat) : FL := fun j => if j < n then fl2 j else if j = 8 then (fun i => if i < n then fl2 8 i else fl 8 i) else fl j
theorem rowsOf_0 (fl fl2 : FL) : rowsOf fl fl2 0 = fl := by
  funext j
  unfold rowsOf
  rw [if_neg (by omega)]
  by_cases h : j = 8
  · rw [if_pos h, h]; funext i; rw [if_neg (by omega)]
  · rw [if_neg h]
theorem rowsOf_s (fl fl2 : FL) {n : Nat} (hn : n < 8) : upR (rowsOf fl fl2 n) n (fl2 8 n) (fl2 n) = rowsOf fl fl2 (n + 1) := by
  funext j
  by_cases h8 : j = 8
  · subst h8
    funext i
    rw [upR_8 (by omega)]
    unfold rowsOf
    have n1 : ¬ 8 < n := by omega
    have n2 : ¬ 8 < n + 1 := by omega
    rw [if_neg n1, if_neg n2, if_pos rfl]
    show (if i = n then fl2 8 n else if i < n then fl2 8 i else fl 8 i) = if i < n + 1 then fl2 8 i else fl 8 i
    by_cases hi : i = n
    · rw [if_pos hi, if_pos (by omega), hi]
    · rw [if_neg hi]
      by_cases hi2 : i < n
      · rw [if_pos hi2, if_pos (by omega)]
      · rw [if_neg hi2, if_neg (by omega)]
  · by_cases hj : j = n
    · subst hj
      rw [upR_k h8]
      unfold rowsOf
      rw [if_pos (by omega)]
    · rw [upR_j hj h8]
      unfold rowsOf
      by_cases hj2 : j < n
      · rw [if_pos hj2, if_pos (by omega)]
      · rw [if_neg hj2, if_neg h8, if_neg (by omega), if_neg h8]
set_option maxHeartbeats 4000000 in
set_option maxRecDepth 100000 in
theorem c_X0_copyFrom (l : Launch) (hlf : l.stackTraces = false) (g : GC) (M : HM) (a b : Nat) (fl fl2 : FL) (hA : FlatAt g M a fl) (hB : FlatAt g M b fl2) (hd : a + 17 ≤ b ∨ b + 17 ≤ a) : KM g l yX0_copyFrom cX0_copyFrom 2 none 3 0 0 [.ref a, .ref b] M (.inl (none, putF g M a fl2)) := by
  refine k_meth hlf (by decide) (Nat.le_of_ble_eq_true rfl) fun p e s m below meth c ls hc hr hnx hM hS hl => ?_
  have hc : Cx g p l s m [.ref a, .ref b].toArray meth c cX0_copyFrom 2 RX0 := hc
  have hx := hc.1
  have hb := hc.2.1
  have hl : lv_has ls 2 [(0, .ref a), (1, .ref b)] := hl
  have hM : hR g (putF g M a (rowsOf fl fl2 0)) _ := hR.eq hM (by rw [rowsOf_0, putF_same hA])
  have hA : FlatAt g (putF g M a (rowsOf fl fl2 0)) a (rowsOf fl fl2 0) := FlatAt.put
  have hB0 := hB
  have hB : FlatAt g (putF g M a (rowsOf fl fl2 0)) b fl2 := hB0.far hd.symm
  refine lv_aload_n hx hb dX0_copyFrom_0 rfl (lv_at hl 0 rfl) ?_
  refine gt_X0_14 hc dX0_copyFrom_1 hM hA.o rfl ?_
  refine lv_aload_n hx hb dX0_copyFrom_4 rfl (lv_at hl 1 rfl) ?_
  refine gt_X0_14 hc dX0_copyFrom_5 hM hB.o rfl ?_
  refine k_V0 hc [.ref (b + 1)] cw_X0_61 rfl dX0_copyFrom_8 (c_X3_copyFrom l hlf g _ (a + 1) (b + 1) 10 _ _ _ _ (hA.row (k := 0) (by decide) rfl rfl) (hB.row (k := 0) (by decide) rfl rfl) (by omega) (by decide)) (hA.row (k := 0) (by decide) rfl rfl).1 hM hS hl.1 rfl rfl ⟨Nat.le_of_ble_eq_true rfl, Nat.le_of_ble_eq_true rfl⟩ ⟨Nat.le_of_ble_eq_true rfl, Nat.le_of_ble_eq_true rfl⟩ (Nat.le_of_ble_eq_true rfl) (fun H locs hM hS => ?_)
  have hM := hR.eq hM ((putF_row hA (k := 0) (by decide) rfl rfl).trans (putF_putF.trans (congrArg (putF g M a) (rowsOf_s fl fl2 (n := 0) (by decide)))))
  have hA : FlatAt g (putF g M a (rowsOf fl fl2 1)) a (rowsOf fl fl2 1) := FlatAt.put
  have hB : FlatAt g (putF g M a (rowsOf fl fl2 1)) b fl2 := hB0.far hd.symm
  refine lv_aload_n hx hb dX0_copyFrom_11 rfl (lv_at hl 0 rfl) ?_
  refine gt_X0_20 hc dX0_copyFrom_12 hM hA.o rfl ?_
  refine lv_aload_n hx hb dX0_copyFrom_15 rfl (lv_at hl 1 rfl) ?_
  refine gt_X0_20 hc dX0_copyFrom_16 hM hB.o rfl ?_
  refine k_V0 hc [.ref (b + 3)] cw_X0_61 rfl dX0_copyFrom_19 (c_X3_copyFrom l hlf g _ (a + 3) (b + 3) 4 _ _ _ _ (hA.row (k := 1) (by decide) rfl rfl) (hB.row (k := 1) (by decide) rfl rfl) (by omega) (by decide)) (hA.row (k := 1) (by decide) rfl rfl).1 hM hS hl.1 rfl rfl ⟨Nat.le_of_ble_eq_true rfl, Nat.le_of_ble_eq_true rfl⟩ ⟨Nat.le_of_ble_eq_true rfl, Nat.le_of_ble_eq_true rfl⟩ (Nat.le_of_ble_eq_true rfl) (fun H locs hM hS => ?_)
  have hM := hR.eq hM ((putF_row hA (k := 1) (by decide) rfl rfl).trans (putF_putF.trans (congrArg (putF g M a) (rowsOf_s fl fl2 (n := 1) (by decide)))))
  have hA : FlatAt g (putF g M a (rowsOf fl fl2 2)) a (rowsOf fl fl2 2) := FlatAt.put
  have hB : FlatAt g (putF g M a (rowsOf fl fl2 2)) b fl2 := hB0.far hd.symm
  refine lv_aload_n hx hb dX0_copyFrom_22 rfl (lv_at hl 0 rfl) ?_
  refine gt_X0_23 hc dX0_copyFrom_23 hM hA.o rfl ?_
  refine lv_aload_n hx hb dX0_copyFrom_26 rfl (lv_at hl 1 rfl) ?_
  refine gt_X0_23 hc dX0_copyFrom_27 hM hB.o rfl ?_
  refine k_V0 hc [.ref (b + 5)] cw_X0_61 rfl dX0_copyFrom_30 (c_X3_copyFrom l hlf g _ (a + 5) (b + 5) 4 _ _ _ _ (hA.row (k := 2) (by decide) rfl rfl) (hB.row (k := 2) (by decide) rfl rfl) (by omega) (by decide)) (hA.row (k := 2) (by decide) rfl rfl).1 hM hS hl.1 rfl rfl ⟨Nat.le_of_ble_eq_true rfl, Nat.le_of_ble_eq_true rfl⟩ ⟨Nat.le_of_ble_eq_true rfl, Nat.le_of_ble_eq_true rfl⟩ (Nat.le_of_ble_eq_true rfl) (fun H locs hM hS => ?_)
  have hM := hR.eq hM ((putF_row hA (k := 2) (by decide) rfl rfl).trans (putF_putF.trans (congrArg (putF g M a) (rowsOf_s fl fl2 (n := 2) (by decide)))))
  have hA : FlatAt g (putF g M a (rowsOf fl fl2 3)) a (rowsOf fl fl2 3) := FlatAt.put
  have hB : FlatAt g (putF g M a (rowsOf fl fl2 3)) b fl2 := hB0.far hd.symm
  refine lv_aload_n hx hb dX0_copyFrom_33 rfl (lv_at hl 0 rfl) ?_
  refine gt_X0_26 hc dX0_copyFrom_34 hM hA.o rfl ?_
  refine lv_aload_n hx hb dX0_copyFrom_37 rfl (lv_at hl 1 rfl) ?_
  refine gt_X0_26 hc dX0_copyFrom_38 hM hB.o rfl ?_
  refine k_V0 hc [.ref (b + 7)] cw_X0_61 rfl dX0_copyFrom_41 (c_X3_copyFrom l hlf g _ (a + 7) (b + 7) 30 _ _ _ _ (hA.row (k := 3) (by decide) rfl rfl) (hB.row (k := 3) (by decide) rfl rfl) (by omega) (by decide)) (hA.row (k := 3) (by decide) rfl rfl).1 hM hS hl.1 rfl rfl ⟨Nat.le_of_ble_eq_true rfl, Nat.le_of_ble_eq_true rfl⟩ ⟨Nat.le_of_ble_eq_true rfl, Nat.le_of_ble_eq_true rfl⟩ (Nat.le_of_ble_eq_true rfl) (fun H locs hM hS => ?_)
  have hM := hR.eq hM ((putF_row hA (k := 3) (by decide) rfl rfl).trans (putF_putF.trans (congrArg (putF g M a) (rowsOf_s fl fl2 (n := 3) (by decide)))))
  have hA : FlatAt g (putF g M a (rowsOf fl fl2 4)) a (rowsOf fl fl2 4) := FlatAt.put
  have hB : FlatAt g (putF g M a (rowsOf fl fl2 4)) b fl2 := hB0.far hd.symm
  refine lv_aload_n hx hb dX0_copyFrom_44 rfl (lv_at hl 0 rfl) ?_
  refine gt_X0_29 hc dX0_copyFrom_45 hM hA.o rfl ?_
  refine lv_aload_n hx hb dX0_copyFrom_48 rfl (lv_at hl 1 rfl) ?_
  refine gt_X0_29 hc dX0_copyFrom_49 hM hB.o rfl ?_
  refine k_V0 hc [.ref (b + 9)] cw_X0_61 rfl dX0_copyFrom_52 (c_X3_copyFrom l hlf g _ (a + 9) (b + 9) 6 _ _ _ _ (hA.row (k := 4) (by decide) rfl rfl) (hB.row (k := 4) (by decide) rfl rfl) (by omega) (by decide)) (hA.row (k := 4) (by decide) rfl rfl).1 hM hS hl.1 rfl rfl ⟨Nat.le_of_ble_eq_true rfl, Nat.le_of_ble_eq_true rfl⟩ ⟨Nat.le_of_ble_eq_true rfl, Nat.le_of_ble_eq_true rfl⟩ (Nat.le_of_ble_eq_true rfl) (fun H locs hM hS => ?_)
  have hM := hR.eq hM ((putF_row hA (k := 4) (by decide) rfl rfl).trans (putF_putF.trans (congrArg (putF g M a) (rowsOf_s fl fl2 (n := 4) (by decide)))))
  have hA : FlatAt g (putF g M a (rowsOf fl fl2 5)) a (rowsOf fl fl2 5) := FlatAt.put
  have hB : FlatAt g (putF g M a (rowsOf fl fl2 5)) b fl2 := hB0.far hd.symm
  refine lv_aload_n hx hb dX0_copyFrom_55 rfl (lv_at hl 0 rfl) ?_
  refine gt_X0_32 hc dX0_copyFrom_56 hM hA.o rfl ?_
  refine lv_aload_n hx hb dX0_copyFrom_59 rfl (lv_at hl 1 rfl) ?_
  refine gt_X0_32 hc dX0_copyFrom_60 hM hB.o rfl ?_
  refine k_V0 hc [.ref (b + 11)] cw_X0_61 rfl dX0_copyFrom_63 (c_X3_copyFrom l hlf g _ (a + 11) (b + 11) 6 _ _ _ _ (hA.row (k := 5) (by decide) rfl rfl) (hB.row (k := 5) (by decide) rfl rfl) (by omega) (by decide)) (hA.row (k := 5) (by decide) rfl rfl).1 hM hS hl.1 rfl rfl ⟨Nat.le_of_ble_eq_true rfl, Nat.le_of_ble_eq_true rfl⟩ ⟨Nat.le_of_ble_eq_true rfl, Nat.le_of_ble_eq_true rfl⟩ (Nat.le_of_ble_eq_true rfl) (fun H locs hM hS => ?_)
  have hM := hR.eq hM ((putF_row hA (k := 5) (by decide) rfl rfl).trans (putF_putF.trans (congrArg (putF g M a) (rowsOf_s fl fl2 (n := 5) (by decide)))))
  have hA : FlatAt g (putF g M a (rowsOf fl fl2 6)) a (rowsOf fl fl2 6) := FlatAt.put
  have hB : FlatAt g (putF g M a (rowsOf fl fl2 6)) b fl2 := hB0.far hd.symm
  refine lv_aload_n hx hb dX0_copyFrom_66 rfl (lv_at hl 0 rfl) ?_
  refine gt_X0_35 hc dX0_copyFrom_67 hM hA.o rfl ?_
  refine lv_aload_n hx hb dX0_copyFrom_70 rfl (lv_at hl 1 rfl) ?_
  refine gt_X0_35 hc dX0_copyFrom_71 hM hB.o rfl ?_
  refine k_V0 hc [.ref (b + 13)] cw_X0_61 rfl dX0_copyFrom_74 (c_X3_copyFrom l hlf g _ (a + 13) (b + 13) 6 _ _ _ _ (hA.row (k := 6) (by decide) rfl rfl) (hB.row (k := 6) (by decide) rfl rfl) (by omega) (by decide)) (hA.row (k := 6) (by decide) rfl rfl).1 hM hS hl.1 rfl rfl ⟨Nat.le_of_ble_eq_true rfl, Nat.le_of_ble_eq_true rfl⟩ ⟨Nat.le_of_ble_eq_true rfl, Nat.le_of_ble_eq_true rfl⟩ (Nat.le_of_ble_eq_true rfl) (fun H locs hM hS => ?_)
  have hM := hR.eq hM ((putF_row hA (k := 6) (by decide) rfl rfl).trans (putF_putF.trans (congrArg (putF g M a) (rowsOf_s fl fl2 (n := 6) (by decide)))))
  have hA : FlatAt g (putF g M a (rowsOf fl fl2 7)) a (rowsOf fl fl2 7) := FlatAt.put
  have hB : FlatAt g (putF g M a (rowsOf fl fl2 7)) b fl2 := hB0.far hd.symm
  refine lv_aload_n hx hb dX0_copyFrom_77 rfl (lv_at hl 0 rfl) ?_
  refine gt_X0_38 hc dX0_copyFrom_78 hM hA.o rfl ?_
  refine lv_aload_n hx hb dX0_copyFrom_81 rfl (lv_at hl 1 rfl) ?_
  refine gt_X0_38 hc dX0_copyFrom_82 hM hB.o rfl ?_
  refine k_V0 hc [.ref (b + 15)] cw_X0_61 rfl dX0_copyFrom_85 (c_X3_copyFrom l hlf g _ (a + 15) (b + 15) 6 _ _ _ _ (hA.row (k := 7) (by decide) rfl rfl) (hB.row (k := 7) (by decide) rfl rfl) (by omega) (by decide)) (hA.row (k := 7) (by decide) rfl rfl).1 hM hS hl.1 rfl rfl ⟨Nat.le_of_ble_eq_true rfl, Nat.le_of_ble_eq_true rfl⟩ ⟨Nat.le_of_ble_eq_true rfl, Nat.le_of_ble_eq_true rfl⟩ (Nat.le_of_ble_eq_true rfl) (fun H locs hM hS => ?_)
  have hM := hR.eq hM ((putF_row hA (k := 7) (by decide) rfl rfl).trans (putF_putF.trans (congrArg (putF g M a) (rowsOf_s fl fl2 (n := 7) (by decide)))))
  have hA : FlatAt g (putF g M a (rowsOf fl fl2 8)) a (rowsOf fl fl2 8) := FlatAt.put
  have hB : FlatAt g (putF g M a (rowsOf fl fl2 8)) b fl2 := hB0.far hd.symm
  refine lv_aload_n hx hb dX0_copyFrom_88 rfl (lv_at hl 0 rfl) ?_
  refine lv_aload_n hx hb dX0_copyFrom_89 rfl (lv_at hl 1 rfl) ?_
  refine gt_X0_41 hc dX0_copyFrom_90 hM hB.o rfl ?_
  refine pt_X0_41 hc dX0_copyFrom_93 hM hS hA.o rfl rfl (Nat.le_of_ble_eq_true rfl) (fun H locs hM hS => ?_)
  have hM := hR.eq hM ((putF_fld hA 0 rfl).trans putF_putF)
  have hA : FlatAt g (putF g M a (up2 (rowsOf fl fl2 8) 9 0 (fl2 9 0))) a (up2 (rowsOf fl fl2 8) 9 0 (fl2 9 0)) := FlatAt.put
  have hB : FlatAt g (putF g M a (up2 (rowsOf fl fl2 8) 9 0 (fl2 9 0))) b fl2 := hB0.far hd.symm
  refine lv_aload_n hx hb dX0_copyFrom_96 rfl (lv_at hl 0 rfl) ?_
  refine lv_aload_n hx hb dX0_copyFrom_97 rfl (lv_at hl 1 rfl) ?_
  refine gt_X0_45 hc dX0_copyFrom_98 hM hB.o rfl ?_
  refine pt_X0_45 hc dX0_copyFrom_101 hM hS hA.o rfl rfl (Nat.le_of_ble_eq_true rfl) (fun H locs hM hS => ?_)
  have hM := hR.eq hM ((putF_fld hA 1 rfl).trans putF_putF)
  have hA : FlatAt g (putF g M a (up2 (up2 (rowsOf fl fl2 8) 9 0 (fl2 9 0)) 9 1 (fl2 9 1))) a (up2 (up2 (rowsOf fl fl2 8) 9 0 (fl2 9 0)) 9 1 (fl2 9 1)) := FlatAt.put
  have hB : FlatAt g (putF g M a (up2 (up2 (rowsOf fl fl2 8) 9 0 (fl2 9 0)) 9 1 (fl2 9 1))) b fl2 := hB0.far hd.symm
  refine lv_aload_n hx hb dX0_copyFrom_104 rfl (lv_at hl 0 rfl) ?_
  refine lv_aload_n hx hb dX0_copyFrom_105 rfl (lv_at hl 1 rfl) ?_
  refine gt_X0_48 hc dX0_copyFrom_106 hM hB.o rfl ?_
  refine pt_X0_48 hc dX0_copyFrom_109 hM hS hA.o rfl rfl (Nat.le_of_ble_eq_true rfl) (fun H locs hM hS => ?_)
  have hM := hR.eq hM ((putF_fld hA 2 rfl).trans putF_putF)
  have hA : FlatAt g (putF g M a (up2 (up2 (up2 (rowsOf fl fl2 8) 9 0 (fl2 9 0)) 9 1 (fl2 9 1)) 9 2 (fl2 9 2))) a (up2 (up2 (up2 (rowsOf fl fl2 8) 9 0 (fl2 9 0)) 9 1 (fl2 9 1)) 9 2 (fl2 9 2)) := FlatAt.put
  have hB : FlatAt g (putF g M a (up2 (up2 (up2 (rowsOf fl fl2 8) 9 0 (fl2 9 0)) 9 1 (fl2 9 1)) 9 2 (fl2 9 2))) b fl2 := hB0.far hd.symm
  refine lv_aload_n hx hb dX0_copyFrom_112 rfl (lv_at hl 0 rfl) ?_
  refine lv_aload_n hx hb dX0_copyFrom_113 rfl (lv_at hl 1 rfl) ?_
  refine gt_X0_51 hc dX0_copyFrom_114 hM hB.o rfl ?_
  refine pt_X0_51 hc dX0_copyFrom_117 hM hS hA.o rfl rfl (Nat.le_of_ble_eq_true rfl) (fun H locs hM hS => ?_)
  have hM := hR.eq hM ((putF_fld hA 3 rfl).trans putF_putF)
  have hA : FlatAt g (putF g M a (up2 (up2 (up2 (up2 (rowsOf fl fl2 8) 9 0 (fl2 9 0)) 9 1 (fl2 9 1)) 9 2 (fl2 9 2)) 9 3 (fl2 9 3))) a (up2 (up2 (up2 (up2 (rowsOf fl fl2 8) 9 0 (fl2 9 0)) 9 1 (fl2 9 1)) 9 2 (fl2 9 2)) 9 3 (fl2 9 3)) := FlatAt.put
  have hB : FlatAt g (putF g M a (up2 (up2 (up2 (up2 (rowsOf fl fl2 8) 9 0 (fl2 9 0)) 9 1 (fl2 9 1)) 9 2 (fl2 9 2)) 9 3 (fl2 9 3))) b fl2 := hB0.far hd.symm
  refine lv_aload_n hx hb dX0_copyFrom_120 rfl (lv_at hl 0 rfl) ?_
  refine lv_aload_n hx hb dX0_copyFrom_121 rfl (lv_at hl 1 rfl) ?_
  refine gt_X0_54 hc dX0_copyFrom_122 hM hB.o rfl ?_
  refine pt_X0_54 hc dX0_copyFrom_125 hM hS hA.o rfl rfl (Nat.le_of_ble_eq_true rfl) (fun H locs hM hS => ?_)
  have hM := hR.eq hM ((putF_fld hA 4 rfl).trans putF_putF)
  have hA : FlatAt g (putF g M a (up2 (up2 (up2 (up2 (up2 (rowsOf fl fl2 8) 9 0 (fl2 9 0)) 9 1 (fl2 9 1)) 9 2 (fl2 9 2)) 9 3 (fl2 9 3)) 9 4 (fl2 9 4))) a (up2 (up2 (up2 (up2 (up2 (rowsOf fl fl2 8) 9 0 (fl2 9 0)) 9 1 (fl2 9 1)) 9 2 (fl2 9 2)) 9 3 (fl2 9 3)) 9 4 (fl2 9 4)) := FlatAt.put
  have hB : FlatAt g (putF g M a (up2 (up2 (up2 (up2 (up2 (rowsOf fl fl2 8) 9 0 (fl2 9 0)) 9 1 (fl2 9 1)) 9 2 (fl2 9 2)) 9 3 (fl2 9 3)) 9 4 (fl2 9 4))) b fl2 := hB0.far hd.symm
  have e1 : ∀ k, k < 8 → (up2 (up2 (up2 (up2 (up2 (rowsOf fl fl2 8) 9 0 (fl2 9 0)) 9 1 (fl2 9 1)) 9 2 (fl2 9 2)) 9 3 (fl2 9 3)) 9 4 (fl2 9 4)) k = fl2 k := fun k hk => by
    rw [up2_nk (by omega), up2_nk (by omega), up2_nk (by omega), up2_nk (by omega), up2_nk (by omega)]
    unfold rowsOf
    rw [if_pos hk]
  have e2 : ∀ k, k < 8 → (up2 (up2 (up2 (up2 (up2 (rowsOf fl fl2 8) 9 0 (fl2 9 0)) 9 1 (fl2 9 1)) 9 2 (fl2 9 2)) 9 3 (fl2 9 3)) 9 4 (fl2 9 4)) 8 k = fl2 8 k := fun k hk => by
    rw [up2_nk (by omega), up2_nk (by omega), up2_nk (by omega), up2_nk (by omega), up2_nk (by omega)]
    unfold rowsOf
    rw [if_neg (by omega), if_pos rfl, if_pos hk]
  have e3 : ∀ k, k < 5 → (up2 (up2 (up2 (up2 (up2 (rowsOf fl fl2 8) 9 0 (fl2 9 0)) 9 1 (fl2 9 1)) 9 2 (fl2 9 2)) 9 3 (fl2 9 3)) 9 4 (fl2 9 4)) 9 k = fl2 9 k := fun k hk => by
    have h5 : k = 0 ∨ k = 1 ∨ k = 2 ∨ k = 3 ∨ k = 4 := by omega
    rcases h5 with rfl | rfl | rfl | rfl | rfl <;> rfl
  have hM := hR.eq hM (putF_ext e1 e2 e3)
  exact k_vret hc hr dX0_copyFrom_128 hM hS (Nat.le_of_ble_eq_true rfl) (Nat.le_of_ble_eq_true rfl) rfl
