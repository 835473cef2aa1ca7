/-! THE ROWS: their words, their contracts -/
theorem hR.eq {g : GC} {M M' : HM} {H : Heap} (h : hR g M H) (e : M = M') : hR g M' H := e ▸ h
theorem lv_chg {ls : Array Slot} {n i : Nat} {x y : Int32} {l : List (Nat × Value)} (h : lv_has ls n ((i, .int x) :: l)) (e : x = y) : lv_has ls n ((i, .int y) :: l) := e ▸ h
abbrev rin (n : Nat) (sz i : Int32) : Prop := ¬ i < 0 ∧ ¬ sz ≤ i ∧ ¬ nI n ≤ i
def rget (n : Nat) (sz : Int32) (f : Nat → Int32) (i : Int32) : Int32 := if rin n sz i then f i.toNatClampNeg else 0
def rset (n : Nat) (sz : Int32) (f : Nat → Int32) (i v : Int32) : Nat → Int32 := if rin n sz i then upd f i.toNatClampNeg v else f
abbrev rroom (n : Nat) (sz : Int32) : Prop := ¬ sz < 0 ∧ sz < nI n
/-- a loop's work, place by place -/
def itr {α : Type} (st : Nat → α → α) (a : α) : Nat → α
  | 0 => a
  | k + 1 => st k (itr st a k)
/-- the first place from k on, d places far -/
def fnd (p : Nat → Bool) : Nat → Nat → Int32
  | 0, _ => -1
  | d + 1, k => if p k = true then nI k else fnd p d (k + 1)
theorem fnd_stop {p : Nat → Bool} {N k : Nat} (h : N ≤ k) : fnd p (N - k) k = -1 := by
  rw [Nat.sub_eq_zero_of_le h]; rfl
theorem fnd_hit {p : Nat → Bool} {N k : Nat} (h : k < N) (hp : p k = true) : fnd p (N - k) k = nI k := by
  rw [show N - k = (N - k - 1) + 1 by omega]
  simp [fnd, hp]
theorem fnd_next {p : Nat → Bool} {N k : Nat} (h : k < N) (hp : ¬ p k = true) : fnd p (N - k) k = fnd p (N - (k + 1)) (k + 1) := by
  rw [show N - k = (N - (k + 1)) + 1 by omega]
  simp [fnd, hp]
def rfind (n : Nat) (sz : Int32) (f : Nat → Int32) (v : Int32) : Int32 := fnd (fun k => decide (rget n sz f (nI k) = v)) sz.toNatClampNeg 0
def rsum (n : Nat) (sz : Int32) (f : Nat → Int32) : Int32 := itr (fun k a => a + rget n sz f (nI k)) 0 sz.toNatClampNeg
theorem in_of {n : Nat} {i : Int32} (hn : n < 2 ^ 31) (h1 : ¬ i < 0) (h2 : ¬ nI n ≤ i) : vp_in i n := by
  obtain ⟨j, hj, rfl⟩ := nI_of h1
  have h3 : j < n := by
    rcases Nat.lt_or_ge j n with h | h
    · exact h
    · exact absurd (nI_le h hj) h2
  exact vp_in_nI h3 hn
theorem in_of' {n : Nat} {i : Int32} (hn : n < 2 ^ 31) (h1 : ¬ i < 0) (h2 : i < nI n) : vp_in i n := in_of hn h1 (Int32.not_le.mpr h2)
set_option maxHeartbeats 4000000 in
set_option maxRecDepth 100000 in
theorem c_X3_size (l : Launch) (hlf : l.stackTraces = false) (g : GC) (M : HM) (r : Nat) (n : Nat) (sz : Int32) (f : Nat → Int32) (hW : RowAt g M r n sz f) : KM g l yX3_size cX3_size 1 (some .int) 1 0 0 [.ref r] M (.inl (some (.int sz), M)) := by
  refine k_meth hlf (by decide) (Nat.le_of_ble_eq_true rfl) fun p e s m below meth c ls hc hr hnx hM hS hl => ?_
  have hc : Cx g p l s m [.ref r].toArray meth c cX3_size 1 RX3 := hc
  have hx := hc.1
  have hb := hc.2.1
  have hl : lv_has ls 1 [(0, .ref r)] := hl
  refine lv_aload_n hx hb dX3_size_0 rfl (lv_at hl 0 rfl) ?_
  refine gt_X3_9 hc dX3_size_1 hM hW.1 rfl ?_
  exact k_iret hc hr dX3_size_4 hM hS (Nat.le_of_ble_eq_true rfl) (Nat.le_of_ble_eq_true rfl) (by rfl)
set_option maxHeartbeats 4000000 in
set_option maxRecDepth 100000 in
theorem c_X3_isFull (l : Launch) (hlf : l.stackTraces = false) (g : GC) (M : HM) (r : Nat) (n : Nat) (sz : Int32) (f : Nat → Int32) (hW : RowAt g M r n sz f) : KM g l yX3_isFull cX3_isFull 1 (some .boolean) 1 0 0 [.ref r] M (.inl (some (.int (bI (¬ sz < nI n))), M)) := by
  refine k_meth hlf (by decide) (Nat.le_of_ble_eq_true rfl) fun p e s m below meth c ls hc hr hnx hM hS hl => ?_
  have hc : Cx g p l s m [.ref r].toArray meth c cX3_isFull 1 RX3 := hc
  have hx := hc.1
  have hb := hc.2.1
  have hl : lv_has ls 1 [(0, .ref r)] := hl
  refine lv_aload_n hx hb dX3_isFull_0 rfl (lv_at hl 0 rfl) ?_
  refine gt_X3_9 hc dX3_isFull_1 hM hW.1 rfl ?_
  refine lv_aload_n hx hb dX3_isFull_4 rfl (lv_at hl 0 rfl) ?_
  refine gt_X3_15 hc dX3_isFull_5 hM hW.1 rfl ?_
  refine k_alenI hc hM hW.2 dX3_isFull_8 ?_
  refine lv_icmp_lt (tgt := 16) hx hb dX3_isFull_9 (by decide) (fun c_9 => ?_) (fun c_9 => ?_)
  · skip
    refine lv_iconst (v := 0) hx hb dX3_isFull_16 (by decide) ?_
    exact k_zret hc hr dX3_isFull_17 hM hS (by first | rfl | exact bI_n) (Nat.le_of_ble_eq_true rfl) (Nat.le_of_ble_eq_true rfl) (by simp only [bI, eq_true c_9, not_false_eq_true, not_true_eq_false, and_true, true_and, and_false, false_and, and_self, ↓reduceIte])
  · skip
    refine lv_iconst (v := 1) hx hb dX3_isFull_12 (by decide) ?_
    refine lv_goto (tgt := 17) hx hb dX3_isFull_13 (by decide) ?_
    exact k_zret hc hr dX3_isFull_17 hM hS (by first | rfl | exact bI_n) (Nat.le_of_ble_eq_true rfl) (Nat.le_of_ble_eq_true rfl) (by simp only [bI, eq_false c_9, not_false_eq_true, not_true_eq_false, and_true, true_and, and_false, false_and, and_self, ↓reduceIte])
set_option maxHeartbeats 4000000 in
set_option maxRecDepth 100000 in
theorem c_X3_has (l : Launch) (hlf : l.stackTraces = false) (g : GC) (M : HM) (r : Nat) (n : Nat) (sz : Int32) (f : Nat → Int32) (i : Int32) (hW : RowAt g M r n sz f) : KM g l yX3_has cX3_has 2 (some .boolean) 1 0 0 [.ref r, .int i] M (.inl (some (.int (bI (rin n sz i))), M)) := by
  refine k_meth hlf (by decide) (Nat.le_of_ble_eq_true rfl) fun p e s m below meth c ls hc hr hnx hM hS hl => ?_
  have hc : Cx g p l s m [.ref r, .int i].toArray meth c cX3_has 2 RX3 := hc
  have hx := hc.1
  have hb := hc.2.1
  have hl : lv_has ls 2 [(0, .ref r), (1, .int i)] := hl
  refine lv_iload_n hx hb dX3_has_0 rfl (lv_at hl 1 rfl) ?_
  refine lv_if_lt (tgt := 25) hx hb dX3_has_1 (by decide) (fun c_1 => ?_) (fun c_1 => ?_)
  · skip
    refine lv_iconst (v := 0) hx hb dX3_has_25 (by decide) ?_
    exact k_zret hc hr dX3_has_26 hM hS (by first | rfl | exact bI_n) (Nat.le_of_ble_eq_true rfl) (Nat.le_of_ble_eq_true rfl) (by simp only [bI, rin, eq_true c_1, not_false_eq_true, not_true_eq_false, and_true, true_and, and_false, false_and, and_self, ↓reduceIte])
  · skip
    refine lv_iload_n hx hb dX3_has_4 rfl (lv_at hl 1 rfl) ?_
    refine lv_aload_n hx hb dX3_has_5 rfl (lv_at hl 0 rfl) ?_
    refine gt_X3_9 hc dX3_has_6 hM hW.1 rfl ?_
    refine lv_icmp_ge (tgt := 25) hx hb dX3_has_9 (by decide) (fun c_9 => ?_) (fun c_9 => ?_)
    · skip
      refine lv_iconst (v := 0) hx hb dX3_has_25 (by decide) ?_
      exact k_zret hc hr dX3_has_26 hM hS (by first | rfl | exact bI_n) (Nat.le_of_ble_eq_true rfl) (Nat.le_of_ble_eq_true rfl) (by simp only [bI, rin, eq_false c_1, eq_true c_9, not_false_eq_true, not_true_eq_false, and_true, true_and, and_false, false_and, and_self, ↓reduceIte])
    · skip
      refine lv_iload_n hx hb dX3_has_12 rfl (lv_at hl 1 rfl) ?_
      refine lv_aload_n hx hb dX3_has_13 rfl (lv_at hl 0 rfl) ?_
      refine gt_X3_15 hc dX3_has_14 hM hW.1 rfl ?_
      refine k_alenI hc hM hW.2 dX3_has_17 ?_
      refine lv_icmp_ge (tgt := 25) hx hb dX3_has_18 (by decide) (fun c_18 => ?_) (fun c_18 => ?_)
      · skip
        refine lv_iconst (v := 0) hx hb dX3_has_25 (by decide) ?_
        exact k_zret hc hr dX3_has_26 hM hS (by first | rfl | exact bI_n) (Nat.le_of_ble_eq_true rfl) (Nat.le_of_ble_eq_true rfl) (by simp only [bI, rin, eq_false c_1, eq_false c_9, eq_true c_18, not_false_eq_true, not_true_eq_false, and_true, true_and, and_false, false_and, and_self, ↓reduceIte])
      · skip
        refine lv_iconst (v := 1) hx hb dX3_has_21 (by decide) ?_
        refine lv_goto (tgt := 26) hx hb dX3_has_22 (by decide) ?_
        exact k_zret hc hr dX3_has_26 hM hS (by first | rfl | exact bI_n) (Nat.le_of_ble_eq_true rfl) (Nat.le_of_ble_eq_true rfl) (by simp only [bI, rin, eq_false c_1, eq_false c_9, eq_false c_18, not_false_eq_true, not_true_eq_false, and_true, true_and, and_false, false_and, and_self, ↓reduceIte])
set_option maxHeartbeats 4000000 in
set_option maxRecDepth 100000 in
theorem c_X3_get (l : Launch) (hlf : l.stackTraces = false) (g : GC) (M : HM) (r : Nat) (n : Nat) (sz : Int32) (f : Nat → Int32) (i : Int32) (hW : RowAt g M r n sz f) (hn : n < 2 ^ 31) : KM g l yX3_get cX3_get 2 (some .int) 1 0 0 [.ref r, .int i] M (.inl (some (.int (rget n sz f i)), M)) := by
  refine k_meth hlf (by decide) (Nat.le_of_ble_eq_true rfl) fun p e s m below meth c ls hc hr hnx hM hS hl => ?_
  have hc : Cx g p l s m [.ref r, .int i].toArray meth c cX3_get 2 RX3 := hc
  have hx := hc.1
  have hb := hc.2.1
  have hl : lv_has ls 2 [(0, .ref r), (1, .int i)] := hl
  refine lv_iload_n hx hb dX3_get_0 rfl (lv_at hl 1 rfl) ?_
  refine lv_if_lt (tgt := 30) hx hb dX3_get_1 (by decide) (fun c_1 => ?_) (fun c_1 => ?_)
  · skip
    refine lv_iconst (v := 0) hx hb dX3_get_30 (by decide) ?_
    exact k_iret hc hr dX3_get_31 hM hS (Nat.le_of_ble_eq_true rfl) (Nat.le_of_ble_eq_true rfl) (by simp only [rget, rin, eq_true c_1, not_false_eq_true, not_true_eq_false, and_true, true_and, and_false, false_and, and_self, ↓reduceIte])
  · skip
    refine lv_iload_n hx hb dX3_get_4 rfl (lv_at hl 1 rfl) ?_
    refine lv_aload_n hx hb dX3_get_5 rfl (lv_at hl 0 rfl) ?_
    refine gt_X3_9 hc dX3_get_6 hM hW.1 rfl ?_
    refine lv_icmp_ge (tgt := 30) hx hb dX3_get_9 (by decide) (fun c_9 => ?_) (fun c_9 => ?_)
    · skip
      refine lv_iconst (v := 0) hx hb dX3_get_30 (by decide) ?_
      exact k_iret hc hr dX3_get_31 hM hS (Nat.le_of_ble_eq_true rfl) (Nat.le_of_ble_eq_true rfl) (by simp only [rget, rin, eq_false c_1, eq_true c_9, not_false_eq_true, not_true_eq_false, and_true, true_and, and_false, false_and, and_self, ↓reduceIte])
    · skip
      refine lv_iload_n hx hb dX3_get_12 rfl (lv_at hl 1 rfl) ?_
      refine lv_aload_n hx hb dX3_get_13 rfl (lv_at hl 0 rfl) ?_
      refine gt_X3_15 hc dX3_get_14 hM hW.1 rfl ?_
      refine k_alenI hc hM hW.2 dX3_get_17 ?_
      refine lv_icmp_ge (tgt := 30) hx hb dX3_get_18 (by decide) (fun c_18 => ?_) (fun c_18 => ?_)
      · skip
        refine lv_iconst (v := 0) hx hb dX3_get_30 (by decide) ?_
        exact k_iret hc hr dX3_get_31 hM hS (Nat.le_of_ble_eq_true rfl) (Nat.le_of_ble_eq_true rfl) (by simp only [rget, rin, eq_false c_1, eq_false c_9, eq_true c_18, not_false_eq_true, not_true_eq_false, and_true, true_and, and_false, false_and, and_self, ↓reduceIte])
      · skip
        refine lv_aload_n hx hb dX3_get_21 rfl (lv_at hl 0 rfl) ?_
        refine gt_X3_15 hc dX3_get_22 hM hW.1 rfl ?_
        refine lv_iload_n hx hb dX3_get_25 rfl (lv_at hl 1 rfl) ?_
        refine k_iald hc hM hW.2 (in_of hn c_1 c_18) dX3_get_26 ?_
        refine lv_goto (tgt := 31) hx hb dX3_get_27 (by decide) ?_
        exact k_iret hc hr dX3_get_31 hM hS (Nat.le_of_ble_eq_true rfl) (Nat.le_of_ble_eq_true rfl) (by simp only [rget, rin, eq_false c_1, eq_false c_9, eq_false c_18, not_false_eq_true, not_true_eq_false, and_true, true_and, and_false, false_and, and_self, ↓reduceIte])
set_option maxHeartbeats 4000000 in
set_option maxRecDepth 100000 in
theorem c_X3_set (l : Launch) (hlf : l.stackTraces = false) (g : GC) (M : HM) (r : Nat) (n : Nat) (sz : Int32) (f : Nat → Int32) (i : Int32) (v : Int32) (hW : RowAt g M r n sz f) (hn : n < 2 ^ 31) : KM g l yX3_set cX3_set 3 none 1 0 0 [.ref r, .int i, .int v] M (.inl (none, (putR g M r n sz (rset n sz f i v)))) := by
  refine k_meth hlf (by decide) (Nat.le_of_ble_eq_true rfl) fun p e s m below meth c ls hc hr hnx hM hS hl => ?_
  have hc : Cx g p l s m [.ref r, .int i, .int v].toArray meth c cX3_set 3 RX3 := hc
  have hx := hc.1
  have hb := hc.2.1
  have hl : lv_has ls 3 [(0, .ref r), (1, .int i), (2, .int v)] := hl
  refine lv_iload_n hx hb dX3_set_0 rfl (lv_at hl 1 rfl) ?_
  refine lv_if_lt (tgt := 28) hx hb dX3_set_1 (by decide) (fun c_1 => ?_) (fun c_1 => ?_)
  · skip
    exact k_vret hc hr dX3_set_28 hM hS (Nat.le_of_ble_eq_true rfl) (Nat.le_of_ble_eq_true rfl) (by simp only [rset, rin, eq_true c_1, not_false_eq_true, not_true_eq_false, and_true, true_and, and_false, false_and, and_self, ↓reduceIte]; try rw [putR_same hW])
  · skip
    refine lv_iload_n hx hb dX3_set_4 rfl (lv_at hl 1 rfl) ?_
    refine lv_aload_n hx hb dX3_set_5 rfl (lv_at hl 0 rfl) ?_
    refine gt_X3_9 hc dX3_set_6 hM hW.1 rfl ?_
    refine lv_icmp_ge (tgt := 28) hx hb dX3_set_9 (by decide) (fun c_9 => ?_) (fun c_9 => ?_)
    · skip
      exact k_vret hc hr dX3_set_28 hM hS (Nat.le_of_ble_eq_true rfl) (Nat.le_of_ble_eq_true rfl) (by simp only [rset, rin, eq_false c_1, eq_true c_9, not_false_eq_true, not_true_eq_false, and_true, true_and, and_false, false_and, and_self, ↓reduceIte]; try rw [putR_same hW])
    · skip
      refine lv_iload_n hx hb dX3_set_12 rfl (lv_at hl 1 rfl) ?_
      refine lv_aload_n hx hb dX3_set_13 rfl (lv_at hl 0 rfl) ?_
      refine gt_X3_15 hc dX3_set_14 hM hW.1 rfl ?_
      refine k_alenI hc hM hW.2 dX3_set_17 ?_
      refine lv_icmp_ge (tgt := 28) hx hb dX3_set_18 (by decide) (fun c_18 => ?_) (fun c_18 => ?_)
      · skip
        exact k_vret hc hr dX3_set_28 hM hS (Nat.le_of_ble_eq_true rfl) (Nat.le_of_ble_eq_true rfl) (by simp only [rset, rin, eq_false c_1, eq_false c_9, eq_true c_18, not_false_eq_true, not_true_eq_false, and_true, true_and, and_false, false_and, and_self, ↓reduceIte]; try rw [putR_same hW])
      · skip
        refine lv_aload_n hx hb dX3_set_21 rfl (lv_at hl 0 rfl) ?_
        refine gt_X3_15 hc dX3_set_22 hM hW.1 rfl ?_
        refine lv_iload_n hx hb dX3_set_25 rfl (lv_at hl 1 rfl) ?_
        refine lv_iload_n hx hb dX3_set_26 rfl (lv_at hl 2 rfl) ?_
        refine k_iast hc hM hS hW.2 (in_of hn c_1 c_18) dX3_set_27 (fun H locs hM hS => ?_)
        have hM := hR.eq hM (putR_items hW)
        have hW := RowAt.put (g := g) (M := M) (r := r) (n := n) (sz := sz) (f := (upd f i.toNatClampNeg v))
        exact k_vret hc hr dX3_set_28 hM hS (Nat.le_of_ble_eq_true rfl) (Nat.le_of_ble_eq_true rfl) (by simp only [rset, rin, eq_false c_1, eq_false c_9, eq_false c_18, not_false_eq_true, not_true_eq_false, and_true, true_and, and_false, false_and, and_self, ↓reduceIte]; try rw [putR_same hW])
set_option maxHeartbeats 4000000 in
set_option maxRecDepth 100000 in
theorem c_X3_add (l : Launch) (hlf : l.stackTraces = false) (g : GC) (M : HM) (r : Nat) (n : Nat) (sz : Int32) (f : Nat → Int32) (v : Int32) (hW : RowAt g M r n sz f) (hn : n < 2 ^ 31) : KM g l yX3_add cX3_add 2 (some .int) 1 0 0 [.ref r, .int v] M (.inl (some (.int (if rroom n sz then sz + 1 - 1 else -1)), (putR g M r n (if rroom n sz then sz + 1 else sz) (if rroom n sz then upd f (sz).toNatClampNeg v else f)))) := by
  refine k_meth hlf (by decide) (Nat.le_of_ble_eq_true rfl) fun p e s m below meth c ls hc hr hnx hM hS hl => ?_
  have hc : Cx g p l s m [.ref r, .int v].toArray meth c cX3_add 2 RX3 := hc
  have hx := hc.1
  have hb := hc.2.1
  have hl : lv_has ls 2 [(0, .ref r), (1, .int v)] := hl
  refine lv_aload_n hx hb dX3_add_0 rfl (lv_at hl 0 rfl) ?_
  refine gt_X3_9 hc dX3_add_1 hM hW.1 rfl ?_
  refine lv_if_lt (tgt := 19) hx hb dX3_add_4 (by decide) (fun c_4 => ?_) (fun c_4 => ?_)
  · skip
    refine lv_iconst (v := (-1)) hx hb dX3_add_19 (by decide) ?_
    exact k_iret hc hr dX3_add_20 hM hS (Nat.le_of_ble_eq_true rfl) (Nat.le_of_ble_eq_true rfl) (by simp only [rroom, eq_true c_4, not_false_eq_true, not_true_eq_false, and_true, true_and, and_false, false_and, and_self, ↓reduceIte]; try rw [putR_same hW])
  · skip
    refine lv_aload_n hx hb dX3_add_7 rfl (lv_at hl 0 rfl) ?_
    refine gt_X3_9 hc dX3_add_8 hM hW.1 rfl ?_
    refine lv_aload_n hx hb dX3_add_11 rfl (lv_at hl 0 rfl) ?_
    refine gt_X3_15 hc dX3_add_12 hM hW.1 rfl ?_
    refine k_alenI hc hM hW.2 dX3_add_15 ?_
    refine lv_icmp_lt (tgt := 21) hx hb dX3_add_16 (by decide) (fun c_16 => ?_) (fun c_16 => ?_)
    · skip
      refine lv_aload_n hx hb dX3_add_21 rfl (lv_at hl 0 rfl) ?_
      refine gt_X3_15 hc dX3_add_22 hM hW.1 rfl ?_
      refine lv_aload_n hx hb dX3_add_25 rfl (lv_at hl 0 rfl) ?_
      refine gt_X3_9 hc dX3_add_26 hM hW.1 rfl ?_
      refine lv_iload_n hx hb dX3_add_29 rfl (lv_at hl 1 rfl) ?_
      refine k_iast hc hM hS hW.2 (in_of' hn c_4 c_16) dX3_add_30 (fun H locs hM hS => ?_)
      have hM := hR.eq hM (putR_items hW)
      have hW := RowAt.put (g := g) (M := M) (r := r) (n := n) (sz := sz) (f := (upd f sz.toNatClampNeg v))
      refine lv_aload_n hx hb dX3_add_31 rfl (lv_at hl 0 rfl) ?_
      refine lv_dup hx hb dX3_add_32 rfl ?_
      refine gt_X3_9 hc dX3_add_33 hM hW.1 rfl ?_
      refine lv_iconst (v := 1) hx hb dX3_add_36 (by decide) ?_
      refine lv_iadd hx hb dX3_add_37 ?_
      refine pt_X3_9 hc dX3_add_38 hM hS hW.1 rfl rfl (Nat.le_of_ble_eq_true rfl) (fun H locs hM hS => ?_)
      have hM := hR.eq hM (putR_size hW rfl)
      have hM := hR.eq hM putR_putR
      have hW := RowAt.put (g := g) (M := M) (r := r) (n := n) (sz := (sz + 1)) (f := (upd f sz.toNatClampNeg v))
      refine lv_aload_n hx hb dX3_add_41 rfl (lv_at hl 0 rfl) ?_
      refine gt_X3_9 hc dX3_add_42 hM hW.1 rfl ?_
      refine lv_iconst (v := 1) hx hb dX3_add_45 (by decide) ?_
      refine lv_isub hx hb dX3_add_46 ?_
      exact k_iret hc hr dX3_add_47 hM hS (Nat.le_of_ble_eq_true rfl) (Nat.le_of_ble_eq_true rfl) (by simp only [rroom, eq_false c_4, eq_true c_16, not_false_eq_true, not_true_eq_false, and_true, true_and, and_false, false_and, and_self, ↓reduceIte]; try rw [putR_same hW])
    · skip
      refine lv_iconst (v := (-1)) hx hb dX3_add_19 (by decide) ?_
      exact k_iret hc hr dX3_add_20 hM hS (Nat.le_of_ble_eq_true rfl) (Nat.le_of_ble_eq_true rfl) (by simp only [rroom, eq_false c_4, eq_false c_16, not_false_eq_true, not_true_eq_false, and_true, true_and, and_false, false_and, and_self, ↓reduceIte]; try rw [putR_same hW])
set_option maxHeartbeats 4000000 in
set_option maxRecDepth 100000 in
theorem c_X3_clear (l : Launch) (hlf : l.stackTraces = false) (g : GC) (M : HM) (r : Nat) (n : Nat) (sz : Int32) (f : Nat → Int32) (hW : RowAt g M r n sz f) : KM g l yX3_clear cX3_clear 1 none 1 0 0 [.ref r] M (.inl (none, (putR g M r n 0 f))) := by
  refine k_meth hlf (by decide) (Nat.le_of_ble_eq_true rfl) fun p e s m below meth c ls hc hr hnx hM hS hl => ?_
  have hc : Cx g p l s m [.ref r].toArray meth c cX3_clear 1 RX3 := hc
  have hx := hc.1
  have hb := hc.2.1
  have hl : lv_has ls 1 [(0, .ref r)] := hl
  refine lv_aload_n hx hb dX3_clear_0 rfl (lv_at hl 0 rfl) ?_
  refine lv_iconst (v := 0) hx hb dX3_clear_1 (by decide) ?_
  refine pt_X3_9 hc dX3_clear_2 hM hS hW.1 rfl rfl (Nat.le_of_ble_eq_true rfl) (fun H locs hM hS => ?_)
  have hM := hR.eq hM (putR_size hW rfl)
  have hW := RowAt.put (g := g) (M := M) (r := r) (n := n) (sz := 0) (f := f)
  exact k_vret hc hr dX3_clear_5 hM hS (Nat.le_of_ble_eq_true rfl) (Nat.le_of_ble_eq_true rfl) (by rfl)
set_option maxHeartbeats 4000000 in
set_option maxRecDepth 100000 in
theorem c_X3_find (l : Launch) (hlf : l.stackTraces = false) (g : GC) (M : HM) (r : Nat) (n : Nat) (sz : Int32) (f : Nat → Int32) (v : Int32) (hW : RowAt g M r n sz f) (hn : n < 2 ^ 31) : KM g l yX3_find cX3_find 3 (some .int) 2 0 0 [.ref r, .int v] M (.inl (some (.int (rfind n sz f v)), M)) := by
  refine k_meth hlf (by decide) (Nat.le_of_ble_eq_true rfl) fun p e s m below meth c ls hc hr hnx hM hS hl => ?_
  have hc : Cx g p l s m [.ref r, .int v].toArray meth c cX3_find 3 RX3 := hc
  have hx := hc.1
  have hb := hc.2.1
  have hl : lv_has ls 3 [(0, .ref r), (1, .int v)] := hl
  refine lv_iconst (v := 0) hx hb dX3_find_0 (by decide) ?_
  refine lv_istore_n (lv' := [(2, .int 0), (0, .ref r), (1, .int v)]) hx hb dX3_find_1 rfl hl (by decide) rfl (fun ls hl => ?_)
  have lp_2 : ∀ (D k : Nat), sz.toNatClampNeg - k < D → k ≤ sz.toNatClampNeg → (rfind n sz f v = fnd (fun j => decide (rget n sz f (nI j) = v)) (sz.toNatClampNeg - k) k) → ∀ (ls : Array Slot) (H : Heap) (locs : List Loc), hR g M H → va_S (gA g) s.heap H locs → lv_has ls 3 [(2, .int (nI k)), (0, .ref r), (1, .int v)] → W p l e (rmOf 2 0 0) s m [.ref r, .int v].toArray below meth c H locs 0 0 (vx_MQ below (KQ g (.inl (some (.int (rfind n sz f v)), M))) (KX g (.inl (some (.int (rfind n sz f v)), M))) [.ref r, .int v].toArray s 0 0 (gA g)) (F0 m 2 ls []) := by
    intro D
    induction D with
    | zero => intro k hD; exact absurd hD (Nat.not_lt_zero _)
    | succ D ih_2 =>
      intro k hD hk hq ls H locs hM hS hl
      refine lv_iload_n hx hb dX3_find_2 rfl (lv_at hl 0 rfl) ?_
      refine lv_aload_n hx hb dX3_find_3 rfl (lv_at hl 1 rfl) ?_
      refine gt_X3_9 hc dX3_find_4 hM hW.1 rfl ?_
      refine lv_icmp_ge (tgt := 27) hx hb dX3_find_7 (by decide) (fun c_7 => ?_) (fun c_7 => ?_)
      · skip
        have c_7 := (k_le (by have := k_clamp_lt sz; omega)).mp c_7
        refine lv_iconst (v := (-1)) hx hb dX3_find_27 (by decide) ?_
        exact k_iret hc hr dX3_find_28 hM hS (Nat.le_of_ble_eq_true rfl) (Nat.le_of_ble_eq_true rfl) (by rw [hq, fnd_stop c_7])
      · skip
        have c_7 : ¬ sz.toNatClampNeg ≤ k := fun h => c_7 ((k_le (by have := k_clamp_lt sz; omega)).mpr h)
        refine lv_aload_n hx hb dX3_find_10 rfl (lv_at hl 1 rfl) ?_
        refine lv_iload_n hx hb dX3_find_11 rfl (lv_at hl 0 rfl) ?_
        refine k_V1 hc [.int (nI k)] cw_X3_19 rfl dX3_find_12 (c_X3_get l hlf g _ r n sz f (nI k) hW hn) hW.1 hM hS hl.1 rfl rfl ⟨Nat.le_of_ble_eq_true rfl, Nat.le_of_ble_eq_true rfl⟩ ⟨Nat.le_of_ble_eq_true rfl, Nat.le_of_ble_eq_true rfl⟩ (Nat.le_of_ble_eq_true rfl) (fun H locs hM hS => ?_)
        refine lv_iload_n hx hb dX3_find_15 rfl (lv_at hl 2 rfl) ?_
        refine lv_icmp_ne (tgt := 21) hx hb dX3_find_16 (by decide) (fun c_16 => ?_) (fun c_16 => ?_)
        · skip
          refine lv_iinc (v := (nI (k + 1))) (lv' := [(2, .int (nI (k + 1))), (0, .ref r), (1, .int v)]) hx hb dX3_find_21 hl (k := 0) rfl (k_inc1 _) (by decide) rfl (fun ls hl => ?_)
          refine lv_goto (tgt := 2) hx hb dX3_find_24 (by decide) ?_
          exact ih_2 (k + 1) (by omega) (by omega) (hq.trans (fnd_next (Nat.not_le.mp c_7) (by simpa using c_16))) ls _ _ hM hS (lv_sub hl [0, 1, 2] rfl)
        · skip
          refine lv_iload_n hx hb dX3_find_19 rfl (lv_at hl 0 rfl) ?_
          exact k_iret hc hr dX3_find_20 hM hS (Nat.le_of_ble_eq_true rfl) (Nat.le_of_ble_eq_true rfl) (by rw [hq, fnd_hit (Nat.not_le.mp c_7) (by simpa using c_16)])
  have z_2 : 0 = (nI 0) := rfl
  have hl := lv_chg (lv_sub hl [0, 1, 2] rfl) z_2
  exact lp_2 (sz.toNatClampNeg + 1) 0 (by omega) (by omega) rfl ls _ _ hM hS (lv_sub hl [0, 1, 2] rfl)
set_option maxHeartbeats 4000000 in
set_option maxRecDepth 100000 in
theorem c_X3_sum (l : Launch) (hlf : l.stackTraces = false) (g : GC) (M : HM) (r : Nat) (n : Nat) (sz : Int32) (f : Nat → Int32) (hW : RowAt g M r n sz f) (hn : n < 2 ^ 31) : KM g l yX3_sum cX3_sum 3 (some .int) 2 0 0 [.ref r] M (.inl (some (.int (rsum n sz f)), M)) := by
  refine k_meth hlf (by decide) (Nat.le_of_ble_eq_true rfl) fun p e s m below meth c ls hc hr hnx hM hS hl => ?_
  have hc : Cx g p l s m [.ref r].toArray meth c cX3_sum 3 RX3 := hc
  have hx := hc.1
  have hb := hc.2.1
  have hl : lv_has ls 3 [(0, .ref r)] := hl
  refine lv_iconst (v := 0) hx hb dX3_sum_0 (by decide) ?_
  refine lv_istore_n (lv' := [(1, .int 0), (0, .ref r)]) hx hb dX3_sum_1 rfl hl (by decide) rfl (fun ls hl => ?_)
  refine lv_iconst (v := 0) hx hb dX3_sum_2 (by decide) ?_
  refine lv_istore_n (lv' := [(2, .int 0), (1, .int 0), (0, .ref r)]) hx hb dX3_sum_3 rfl hl (by decide) rfl (fun ls hl => ?_)
  have lp_4 : ∀ (D k : Nat), sz.toNatClampNeg - k < D → k ≤ sz.toNatClampNeg → ∀ (ls : Array Slot) (H : Heap) (locs : List Loc), hR g M H → va_S (gA g) s.heap H locs → lv_has ls 3 [(2, .int (nI k)), (1, .int (itr (fun j a => a + rget n sz f (nI j)) 0 k)), (0, .ref r)] → W p l e (rmOf 2 0 0) s m [.ref r].toArray below meth c H locs 0 0 (vx_MQ below (KQ g (.inl (some (.int (rsum n sz f)), M))) (KX g (.inl (some (.int (rsum n sz f)), M))) [.ref r].toArray s 0 0 (gA g)) (F0 m 4 ls []) := by
    intro D
    induction D with
    | zero => intro k hD; exact absurd hD (Nat.not_lt_zero _)
    | succ D ih_4 =>
      intro k hD hk ls H locs hM hS hl
      refine lv_iload_n hx hb dX3_sum_4 rfl (lv_at hl 0 rfl) ?_
      refine lv_aload_n hx hb dX3_sum_5 rfl (lv_at hl 2 rfl) ?_
      refine gt_X3_9 hc dX3_sum_6 hM hW.1 rfl ?_
      refine lv_icmp_ge (tgt := 26) hx hb dX3_sum_9 (by decide) (fun c_9 => ?_) (fun c_9 => ?_)
      · skip
        have c_9 := (k_le (by have := k_clamp_lt sz; omega)).mp c_9
        refine lv_iload_n hx hb dX3_sum_26 rfl (lv_at hl 1 rfl) ?_
        exact k_iret hc hr dX3_sum_27 hM hS (Nat.le_of_ble_eq_true rfl) (Nat.le_of_ble_eq_true rfl) (by rw [rsum, show k = sz.toNatClampNeg by omega])
      · skip
        have c_9 : ¬ sz.toNatClampNeg ≤ k := fun h => c_9 ((k_le (by have := k_clamp_lt sz; omega)).mpr h)
        refine lv_iload_n hx hb dX3_sum_12 rfl (lv_at hl 1 rfl) ?_
        refine lv_aload_n hx hb dX3_sum_13 rfl (lv_at hl 2 rfl) ?_
        refine lv_iload_n hx hb dX3_sum_14 rfl (lv_at hl 0 rfl) ?_
        refine k_V1 hc [.int (nI k)] cw_X3_19 rfl dX3_sum_15 (c_X3_get l hlf g _ r n sz f (nI k) hW hn) hW.1 hM hS hl.1 rfl rfl ⟨Nat.le_of_ble_eq_true rfl, Nat.le_of_ble_eq_true rfl⟩ ⟨Nat.le_of_ble_eq_true rfl, Nat.le_of_ble_eq_true rfl⟩ (Nat.le_of_ble_eq_true rfl) (fun H locs hM hS => ?_)
        refine lv_iadd hx hb dX3_sum_18 ?_
        refine lv_istore_n (lv' := [(1, .int ((itr (fun j a => a + rget n sz f (nI j)) 0 k) + (rget n sz f (nI k)))), (2, .int (nI k)), (0, .ref r)]) hx hb dX3_sum_19 rfl hl (by decide) rfl (fun ls hl => ?_)
        refine lv_iinc (v := (nI (k + 1))) (lv' := [(2, .int (nI (k + 1))), (1, .int ((itr (fun j a => a + rget n sz f (nI j)) 0 k) + (rget n sz f (nI k)))), (0, .ref r)]) hx hb dX3_sum_20 hl (k := 1) rfl (k_inc1 _) (by decide) rfl (fun ls hl => ?_)
        refine lv_goto (tgt := 4) hx hb dX3_sum_23 (by decide) ?_
        have z_1 : ((itr (fun j a => a + rget n sz f (nI j)) 0 k) + (rget n sz f (nI k))) = (itr (fun j a => a + rget n sz f (nI j)) 0 (k + 1)) := rfl
        have hl := lv_chg (lv_sub hl [1, 0, 2] rfl) z_1
        exact ih_4 (k + 1) (by omega) (by omega) ls _ _ hM hS (lv_sub hl [1, 0, 2] rfl)
  have z_2 : 0 = (nI 0) := rfl
  have hl := lv_chg (lv_sub hl [0, 1, 2] rfl) z_2
  have z_1 : 0 = (itr (fun j a => a + rget n sz f (nI j)) 0 0) := rfl
  have hl := lv_chg (lv_sub hl [1, 0, 2] rfl) z_1
  exact lp_4 (sz.toNatClampNeg + 1) 0 (by omega) (by omega) ls _ _ hM hS (lv_sub hl [1, 0, 2] rfl)
