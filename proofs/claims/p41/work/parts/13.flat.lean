/-! THE FLAT: its words, its contracts -/
theorem putF_rowf {g : GC} {M : HM} {a : Nat} {fl : FL} (h : FlatAt g M a fl) {k r n : Nat} {f : Nat → Int32} (hk : k < 8) (hr : r = a + 1 + 2 * k) (hn : n = lenF k) : putR g M r n (fl 8 k) f = putF g M a (up1 fl k f) := by
  rw [putF_row h hk hr hn]
  congr 1
  funext j
  by_cases h8 : j = 8
  · subst h8
    rw [up1_ne (by omega)]
    funext i
    by_cases hi : i = k
    · subst hi; exact up2_at
    · rw [show upR fl k (fl 8 k) f 8 i = up1 fl k f 8 i from up2_ni hi, up1_ne (by omega)]
  · rw [show upR fl k (fl 8 k) f j = up1 fl k f j from up2_nk h8]
abbrev gS (fl : FL) (i : Int32) : Int32 := rget 10 (fl 8 0) (fl 0) i
abbrev gP (fl : FL) (i : Int32) : Int32 := rget 4 (fl 8 1) (fl 1) i
abbrev gH (fl : FL) (i : Int32) : Int32 := rget 4 (fl 8 2) (fl 2) i
abbrev gDr (fl : FL) (i : Int32) : Int32 := rget 30 (fl 8 3) (fl 3) i
abbrev gCa (fl : FL) (i : Int32) : Int32 := rget 6 (fl 8 4) (fl 4) i
abbrev gTh (fl : FL) (i : Int32) : Int32 := rget 6 (fl 8 5) (fl 5) i
abbrev gTi (fl : FL) (i : Int32) : Int32 := rget 6 (fl 8 6) (fl 6) i
abbrev gDk (fl : FL) (i : Int32) : Int32 := rget 6 (fl 8 7) (fl 7) i
def wayI (a b : Int32) : Int32 := if b < a then -1 else 1
abbrev isPl (p : Int32) : Prop := ¬ p < 0 ∧ ¬ 100 ≤ p
def nearPl (p : Int32) : Int32 := maxI 0 (minI 99 p)
def ofD (h : Int32) : Int32 := h - h / 24 * 24
def midI (o : Int32) : Int32 := if 12 < o then 24 - o else o
def heatI (dh h : Int32) : Int32 := dh * midI (ofD h) / 6
abbrev hNow (fl : FL) : Int32 := heatI (fl 9 2) (fl 9 1)
abbrev farF (fl : FL) (s p : Int32) : Int32 := absI (gS fl s - gP fl p)
abbrev tooHot (h f z : Int32) : Prop := ¬ h * f / 10 ≤ 2 * z
abbrev shimF (fl : FL) (s p h : Int32) : Prop := tooHot h (farF fl s p) (gH fl p)
def htmP (fl : FL) (s p : Int32) (k : Nat) : Bool := decide (¬ (¬ hNow fl ≤ nI k ∧ shimF fl s p (hNow fl - nI k)))
def htmF (fl : FL) (s p : Int32) : Int32 := fnd (htmP fl s p) ((hNow fl).toNatClampNeg + 1) 0
abbrev bendF (fl : FL) (s p : Int32) : Int32 := hNow fl * farF fl s p / 50
def bwF (fl : FL) (s p : Int32) : Int32 := if 12 ≤ ofD (fl 9 1) then -(wayI (gP fl p) (gS fl s)) else wayI (gP fl p) (gS fl s)
abbrev seemF (fl : FL) (s p : Int32) : Int32 := nearPl (gS fl s + bwF fl s p * bendF fl s p)
def wlk (w : Int32) : Nat → Int32 → Int32
  | 0, p => p
  | d + 1, p => if isPl (p + w) then wlk w d (p + w) else p
def walkF (fl : FL) (s p : Int32) : Int32 := wlk (bwF fl s p) (bendF fl s p).toNatClampNeg (gS fl s)
abbrev offF (fl : FL) (s p : Int32) : Int32 := absI (seemF fl s p - gS fl s)
abbrev betF (fl : FL) (s p o : Int32) : Prop := (offF fl s p = offF fl s o ∧ ¬ gH fl p ≤ gH fl o) ∨ (¬ offF fl s p = offF fl s o ∧ ¬ offF fl s o ≤ offF fl s p)
def bpS (fl : FL) (s : Int32) (k : Nat) (b : Int32) : Int32 := if shimF fl s (nI k) (hNow fl) then b else if b = -1 ∨ betF fl s (nI k) b then nI k else b
def bestF (fl : FL) (s : Int32) : Int32 := itr (bpS fl s) (-1) (fl 8 1).toNatClampNeg
def clearF (fl : FL) (s p : Int32) : Int32 := fnd (fun k => decide (¬ shimF fl s p (heatI (fl 9 2) (fl 9 1 + nI k)))) 24 0
abbrev hasSh (fl : FL) (i : Int32) : Prop := ¬ i < 0 ∧ ¬ fl 9 0 ≤ i
abbrev drawnF (fl : FL) (s h : Int32) : Int32 := gDr fl (h * 10 + s)
def cdS (fl : FL) (o : Int32) (k : Nat) (n : Int32) : Int32 := if ¬ gDr fl (nI k) = -1 ∧ (gDr fl (nI k) = gS fl (nI k - nI k / 10 * 10) ∨ o = 0) then n + 1 else n
def cdF (fl : FL) (o : Int32) : Int32 := itr (cdS fl o) 0 (fl 8 3).toNatClampNeg
abbrev lostP (fl : FL) (c : Int32) : Prop := ¬ gTh fl c < 20
abbrev roamP (fl : FL) (c : Int32) : Prop := gTi fl c = 0 ∧ ¬ lostP fl c
def clS (fl : FL) (k : Nat) (n : Int32) : Int32 := n + if lostP fl (nI k) then 1 else 0
def clF (fl : FL) : Int32 := itr (clS fl) 0 (fl 8 4).toNatClampNeg
def callF (fl : FL) (c p : Int32) : FL := if roamP fl c ∧ ¬ 30 - hNow fl < absI (p - gCa fl c) then up1 fl 4 (rset 6 (fl 8 4) (fl 4) c (gCa fl c + wayI (gCa fl c) p * minI (absI (p - gCa fl c)) 10)) else fl
def fpS (fl : FL) (p : Int32) (k : Nat) (n : Int32) : Int32 := if n = -1 ∨ ¬ n ≤ absI (gP fl (nI k) - p) then absI (gP fl (nI k) - p) else n
def fpF (fl : FL) (p : Int32) : Int32 := itr (fpS fl p) (-1) (fl 8 1).toNatClampNeg
abbrev caF (fl : FL) (p c : Int32) : Int32 := absI (gCa fl c - p)
abbrev nearP (fl : FL) (p c o : Int32) : Prop := (caF fl p c = caF fl p o ∧ ¬ gTh fl c ≤ gTh fl o) ∨ (¬ caF fl p c = caF fl p o ∧ ¬ caF fl p o ≤ caF fl p c)
def ncS (fl : FL) (p : Int32) (k : Nat) (b : Int32) : Int32 := if b = -1 ∨ nearP fl p (nI k) b then nI k else b
def ncF (fl : FL) (p : Int32) : Int32 := itr (ncS fl p) (-1) (fl 8 4).toNatClampNeg
abbrev thA (t h : Int32) : Int32 := minI 20 (t + h / 4)
def hulF (dh hr : Int32) : Nat → Nat → Int32 → Int32
  | 0, _, _ => -1
  | d + 1, k, t => if ¬ t < 20 then nI k else hulF dh hr d (k + 1) (thA t (heatI dh (hr + nI k)))
def lostF (fl : FL) (c : Int32) : Int32 := hulF (fl 9 2) (fl 9 1) 49 0 (gTh fl c)
def strayF (fl : FL) (c : Int32) : FL := up1 fl 4 (rset 6 (fl 8 4) (fl 4) c (nearPl (gCa fl c + if c - c / 2 * 2 = 0 then 3 else -3)))
def thF (fl : FL) (h c : Int32) : FL := up1 fl 5 (rset 6 (fl 8 5) (fl 5) c (thA (gTh fl c) h))
def phS (h : Int32) (k : Nat) (fl : FL) : FL := if ¬ h < 6 ∧ roamP (thF fl h (nI k)) (nI k) then strayF (thF fl h (nI k)) (nI k) else thF fl h (nI k)
def phF (fl : FL) : FL := up2 (itr (phS (hNow fl)) fl (fl 8 4).toNatClampNeg) 9 1 ((itr (phS (hNow fl)) fl (fl 8 4).toNatClampNeg) 9 1 + 1)
theorem itr_keep {α β : Type} (st : Nat → α → α) (q : α → β) (h : ∀ k a, q (st k a) = q a) (a : α) : ∀ n, q (itr st a n) = q a
  | 0 => rfl
  | n + 1 => (h n _).trans (itr_keep st q h a n)
theorem phS_8 (h : Int32) (k : Nat) (fl : FL) : phS h k fl 8 = fl 8 := by
  unfold phS
  split <;> rfl
theorem ph_8 (h : Int32) (fl : FL) (n : Nat) : itr (phS h) fl n 8 = fl 8 := itr_keep (phS h) (fun f => f 8) (phS_8 h) fl n
theorem k_leL {b k : Nat} {x : Int32} (hx : x = nI b) (hb : b < 2 ^ 31) (hk : k < 2 ^ 31) : x ≤ nI k ↔ b ≤ k := by rw [hx]; exact nI_leI hb hk
theorem k_ltL {b k : Nat} {x : Int32} (hx : x = nI b) (hb : b < 2 ^ 31) (hk : k < 2 ^ 31) : x < nI k ↔ b < k := by rw [hx]; exact nI_ltI hb hk
theorem clamp_pos {x : Int32} (h : ¬ x ≤ 0) : x.toNatClampNeg = (x + -1).toNatClampNeg + 1 := by
  have h1 : 0 < x.toInt := by
    rcases Int.lt_or_le 0 x.toInt with h2 | h2
    · exact h2
    · exact absurd (Int32.le_iff_toInt_le.mpr h2) h
  have h2 := Int32.toInt_lt x
  have h3 : (x + -1).toInt = x.toInt - 1 := by
    rw [Int32.toInt_add]
    show (x.toInt + -1).bmod (2 ^ 32) = _
    rw [Int.bmod_eq_of_le (by omega) (by omega)]
    omega
  show x.toInt.toNat = (x + -1).toInt.toNat + 1
  omega
theorem clamp_zero {x : Int32} (h : x ≤ 0) : x.toNatClampNeg = 0 := by
  have h1 : x.toInt ≤ 0 := Int32.le_iff_toInt_le.mp h
  show x.toInt.toNat = 0
  omega
theorem itr_s {α : Type} (st : Nat → α → α) (a : α) (k : Nat) : itr st a (k + 1) = st k (itr st a k) := rfl
set_option maxHeartbeats 4000000 in
set_option maxRecDepth 100000 in
theorem c_X5_wayTo (l : Launch) (hlf : l.stackTraces = false) (g : GC) (M : HM) (i : Int32) (j : Int32) : KM g l yX5_wayTo cX5_wayTo 2 (some .int) 1 0 0 [.int i, .int j] M (.inl (some (.int (wayI i j)), M)) := by
  refine k_meth hlf (by decide) (Nat.le_of_ble_eq_true rfl) fun p e s m below meth c ls hc hr hnx hM hS hl => ?_
  have hc : Cx g p l s m [.int i, .int j].toArray meth c cX5_wayTo 2 RX5 := hc
  have hx := hc.1
  have hb := hc.2.1
  have hl : lv_has ls 2 [(0, .int i), (1, .int j)] := hl
  refine lv_iload_n hx hb dX5_wayTo_0 rfl (lv_at hl 0 rfl) ?_
  refine lv_iload_n hx hb dX5_wayTo_1 rfl (lv_at hl 1 rfl) ?_
  refine lv_icmp_gt (tgt := 9) hx hb dX5_wayTo_2 (by decide) (fun c_2 => ?_) (fun c_2 => ?_)
  · skip
    refine lv_iconst (v := (-1)) hx hb dX5_wayTo_9 (by decide) ?_
    exact k_iret hc hr dX5_wayTo_10 hM hS (Nat.le_of_ble_eq_true rfl) (Nat.le_of_ble_eq_true rfl) (by simp only [wayI, eq_true c_2, not_false_eq_true, not_true_eq_false, and_true, true_and, and_false, false_and, and_self, ↓reduceIte, or_true, true_or, or_self, or_false, false_or])
  · skip
    refine lv_iconst (v := 1) hx hb dX5_wayTo_5 (by decide) ?_
    refine lv_goto (tgt := 10) hx hb dX5_wayTo_6 (by decide) ?_
    exact k_iret hc hr dX5_wayTo_10 hM hS (Nat.le_of_ble_eq_true rfl) (Nat.le_of_ble_eq_true rfl) (by simp only [wayI, eq_false c_2, not_false_eq_true, not_true_eq_false, and_true, true_and, and_false, false_and, and_self, ↓reduceIte, or_true, true_or, or_self, or_false, false_or])
set_option maxHeartbeats 4000000 in
set_option maxRecDepth 100000 in
theorem c_X5_isPlace (l : Launch) (hlf : l.stackTraces = false) (g : GC) (M : HM) (i : Int32) : KM g l yX5_isPlace cX5_isPlace 1 (some .boolean) 1 0 0 [.int i] M (.inl (some (.int (bI (isPl i))), M)) := by
  refine k_meth hlf (by decide) (Nat.le_of_ble_eq_true rfl) fun p e s m below meth c ls hc hr hnx hM hS hl => ?_
  have hc : Cx g p l s m [.int i].toArray meth c cX5_isPlace 1 RX5 := hc
  have hx := hc.1
  have hb := hc.2.1
  have hl : lv_has ls 1 [(0, .int i)] := hl
  refine lv_iload_n hx hb dX5_isPlace_0 rfl (lv_at hl 0 rfl) ?_
  refine lv_if_lt (tgt := 14) hx hb dX5_isPlace_1 (by decide) (fun c_1 => ?_) (fun c_1 => ?_)
  · skip
    refine lv_iconst (v := 0) hx hb dX5_isPlace_14 (by decide) ?_
    exact k_zret hc hr dX5_isPlace_15 hM hS (by first | rfl | exact bI_n) (Nat.le_of_ble_eq_true rfl) (Nat.le_of_ble_eq_true rfl) (by simp only [bI, isPl, eq_true c_1, not_false_eq_true, not_true_eq_false, and_true, true_and, and_false, false_and, and_self, ↓reduceIte, or_true, true_or, or_self, or_false, false_or])
  · skip
    refine lv_iload_n hx hb dX5_isPlace_4 rfl (lv_at hl 0 rfl) ?_
    refine lv_bipush (v := 100) hx hb dX5_isPlace_5 (by decide) ?_
    refine lv_icmp_ge (tgt := 14) hx hb dX5_isPlace_7 (by decide) (fun c_7 => ?_) (fun c_7 => ?_)
    · skip
      refine lv_iconst (v := 0) hx hb dX5_isPlace_14 (by decide) ?_
      exact k_zret hc hr dX5_isPlace_15 hM hS (by first | rfl | exact bI_n) (Nat.le_of_ble_eq_true rfl) (Nat.le_of_ble_eq_true rfl) (by simp only [bI, isPl, eq_false c_1, eq_true c_7, not_false_eq_true, not_true_eq_false, and_true, true_and, and_false, false_and, and_self, ↓reduceIte, or_true, true_or, or_self, or_false, false_or])
    · skip
      refine lv_iconst (v := 1) hx hb dX5_isPlace_10 (by decide) ?_
      refine lv_goto (tgt := 15) hx hb dX5_isPlace_11 (by decide) ?_
      exact k_zret hc hr dX5_isPlace_15 hM hS (by first | rfl | exact bI_n) (Nat.le_of_ble_eq_true rfl) (Nat.le_of_ble_eq_true rfl) (by simp only [bI, isPl, eq_false c_1, eq_false c_7, not_false_eq_true, not_true_eq_false, and_true, true_and, and_false, false_and, and_self, ↓reduceIte, or_true, true_or, or_self, or_false, false_or])
set_option maxHeartbeats 4000000 in
set_option maxRecDepth 100000 in
theorem c_X5_nearestPlace (l : Launch) (hlf : l.stackTraces = false) (g : GC) (M : HM) (i : Int32) : KM g l yX5_nearestPlace cX5_nearestPlace 1 (some .int) 2 0 0 [.int i] M (.inl (some (.int (nearPl i)), M)) := by
  refine k_meth hlf (by decide) (Nat.le_of_ble_eq_true rfl) fun p e s m below meth c ls hc hr hnx hM hS hl => ?_
  have hc : Cx g p l s m [.int i].toArray meth c cX5_nearestPlace 1 RX5 := hc
  have hx := hc.1
  have hb := hc.2.1
  have hl : lv_has ls 1 [(0, .int i)] := hl
  refine lv_iconst (v := 0) hx hb dX5_nearestPlace_0 (by decide) ?_
  refine lv_bipush (v := 99) hx hb dX5_nearestPlace_1 (by decide) ?_
  refine lv_iload_n hx hb dX5_nearestPlace_3 rfl (lv_at hl 0 rfl) ?_
  refine k_min hc q_X5_387 dX5_nearestPlace_4 hl.1 ⟨Nat.le_of_ble_eq_true rfl, Nat.le_of_ble_eq_true rfl, Nat.le_of_ble_eq_true rfl, Nat.le_of_ble_eq_true rfl⟩ ?_
  refine k_max hc q_X5_390 dX5_nearestPlace_7 hl.1 ⟨Nat.le_of_ble_eq_true rfl, Nat.le_of_ble_eq_true rfl, Nat.le_of_ble_eq_true rfl, Nat.le_of_ble_eq_true rfl⟩ ?_
  exact k_iret hc hr dX5_nearestPlace_10 hM hS (Nat.le_of_ble_eq_true rfl) (Nat.le_of_ble_eq_true rfl) (by rfl)
set_option maxHeartbeats 4000000 in
set_option maxRecDepth 100000 in
theorem c_X0_heatAt (l : Launch) (hlf : l.stackTraces = false) (g : GC) (M : HM) (a : Nat) (fl : FL) (h : Int32) (hW : FlatAt g M a fl) : KM g l yX0_heatAt cX0_heatAt 4 (some .int) 1 0 0 [.ref a, .int h] M (.inl (some (.int (heatI (fl 9 2) h)), M)) := by
  refine k_meth hlf (by decide) (Nat.le_of_ble_eq_true rfl) fun p e s m below meth c ls hc hr hnx hM hS hl => ?_
  have hc : Cx g p l s m [.ref a, .int h].toArray meth c cX0_heatAt 4 RX0 := hc
  have hx := hc.1
  have hb := hc.2.1
  have hl : lv_has ls 4 [(0, .ref a), (1, .int h)] := hl
  refine lv_iload_n hx hb dX0_heatAt_0 rfl (lv_at hl 1 rfl) ?_
  refine lv_bipush (v := 24) hx hb dX0_heatAt_1 (by decide) ?_
  refine lv_irem hx hb dX0_heatAt_3 (by decide) ?_
  refine lv_istore_n (lv' := [(2, .int (h - h / 24 * 24)), (0, .ref a), (1, .int h)]) hx hb dX0_heatAt_4 rfl hl (by decide) rfl (fun ls hl => ?_)
  refine lv_iload_n hx hb dX0_heatAt_5 rfl (lv_at hl 0 rfl) ?_
  refine lv_bipush (v := 12) hx hb dX0_heatAt_6 (by decide) ?_
  refine lv_icmp_gt (tgt := 15) hx hb dX0_heatAt_8 (by decide) (fun c_8 => ?_) (fun c_8 => ?_)
  · skip
    refine lv_bipush (v := 24) hx hb dX0_heatAt_15 (by decide) ?_
    refine lv_iload_n hx hb dX0_heatAt_17 rfl (lv_at hl 0 rfl) ?_
    refine lv_isub hx hb dX0_heatAt_18 ?_
    refine lv_istore_n (lv' := [(3, .int (24 - (h - h / 24 * 24))), (2, .int (h - h / 24 * 24)), (0, .ref a), (1, .int h)]) hx hb dX0_heatAt_19 rfl hl (by decide) rfl (fun ls hl => ?_)
    refine lv_aload_n hx hb dX0_heatAt_20 rfl (lv_at hl 2 rfl) ?_
    refine gt_X0_48 hc dX0_heatAt_21 hM hW.o rfl ?_
    refine lv_iload_n hx hb dX0_heatAt_24 rfl (lv_at hl 0 rfl) ?_
    refine lv_imul hx hb dX0_heatAt_25 ?_
    refine lv_bipush (v := 6) hx hb dX0_heatAt_26 (by decide) ?_
    refine lv_idiv hx hb dX0_heatAt_28 (by decide) ?_
    exact k_iret hc hr dX0_heatAt_29 hM hS (Nat.le_of_ble_eq_true rfl) (Nat.le_of_ble_eq_true rfl) (by simp only [heatI, midI, ofD, eq_true c_8, not_false_eq_true, not_true_eq_false, and_true, true_and, and_false, false_and, and_self, ↓reduceIte, or_true, true_or, or_self, or_false, false_or])
  · skip
    refine lv_iload_n hx hb dX0_heatAt_11 rfl (lv_at hl 0 rfl) ?_
    refine lv_goto (tgt := 19) hx hb dX0_heatAt_12 (by decide) ?_
    refine lv_istore_n (lv' := [(3, .int (h - h / 24 * 24)), (2, .int (h - h / 24 * 24)), (0, .ref a), (1, .int h)]) hx hb dX0_heatAt_19 rfl hl (by decide) rfl (fun ls hl => ?_)
    refine lv_aload_n hx hb dX0_heatAt_20 rfl (lv_at hl 2 rfl) ?_
    refine gt_X0_48 hc dX0_heatAt_21 hM hW.o rfl ?_
    refine lv_iload_n hx hb dX0_heatAt_24 rfl (lv_at hl 0 rfl) ?_
    refine lv_imul hx hb dX0_heatAt_25 ?_
    refine lv_bipush (v := 6) hx hb dX0_heatAt_26 (by decide) ?_
    refine lv_idiv hx hb dX0_heatAt_28 (by decide) ?_
    exact k_iret hc hr dX0_heatAt_29 hM hS (Nat.le_of_ble_eq_true rfl) (Nat.le_of_ble_eq_true rfl) (by simp only [heatI, midI, ofD, eq_false c_8, not_false_eq_true, not_true_eq_false, and_true, true_and, and_false, false_and, and_self, ↓reduceIte, or_true, true_or, or_self, or_false, false_or])
set_option maxHeartbeats 4000000 in
set_option maxRecDepth 100000 in
theorem c_X0_heatNow (l : Launch) (hlf : l.stackTraces = false) (g : GC) (M : HM) (a : Nat) (fl : FL) (hW : FlatAt g M a fl) : KM g l yX0_heatNow cX0_heatNow 1 (some .int) 2 0 0 [.ref a] M (.inl (some (.int (hNow fl)), M)) := by
  refine k_meth hlf (by decide) (Nat.le_of_ble_eq_true rfl) fun p e s m below meth c ls hc hr hnx hM hS hl => ?_
  have hc : Cx g p l s m [.ref a].toArray meth c cX0_heatNow 1 RX0 := hc
  have hx := hc.1
  have hb := hc.2.1
  have hl : lv_has ls 1 [(0, .ref a)] := hl
  refine lv_aload_n hx hb dX0_heatNow_0 rfl (lv_at hl 0 rfl) ?_
  refine lv_aload_n hx hb dX0_heatNow_1 rfl (lv_at hl 0 rfl) ?_
  refine gt_X0_45 hc dX0_heatNow_2 hM hW.o rfl ?_
  refine k_V1 hc [.int (fl 9 1)] cw_X0_65 rfl dX0_heatNow_5 (c_X0_heatAt l hlf g _ a fl (fl 9 1) hW) hW.o hM hS hl.1 rfl rfl ⟨Nat.le_of_ble_eq_true rfl, Nat.le_of_ble_eq_true rfl⟩ ⟨Nat.le_of_ble_eq_true rfl, Nat.le_of_ble_eq_true rfl⟩ (Nat.le_of_ble_eq_true rfl) (fun H locs hM hS => ?_)
  exact k_iret hc hr dX0_heatNow_8 hM hS (Nat.le_of_ble_eq_true rfl) (Nat.le_of_ble_eq_true rfl) (by rfl)
set_option maxHeartbeats 4000000 in
set_option maxRecDepth 100000 in
theorem c_X0_bellReach (l : Launch) (hlf : l.stackTraces = false) (g : GC) (M : HM) (a : Nat) (fl : FL) (hW : FlatAt g M a fl) : KM g l yX0_bellReach cX0_bellReach 1 (some .int) 3 0 0 [.ref a] M (.inl (some (.int (30 - hNow fl)), M)) := by
  refine k_meth hlf (by decide) (Nat.le_of_ble_eq_true rfl) fun p e s m below meth c ls hc hr hnx hM hS hl => ?_
  have hc : Cx g p l s m [.ref a].toArray meth c cX0_bellReach 1 RX0 := hc
  have hx := hc.1
  have hb := hc.2.1
  have hl : lv_has ls 1 [(0, .ref a)] := hl
  refine lv_bipush (v := 30) hx hb dX0_bellReach_0 (by decide) ?_
  refine lv_aload_n hx hb dX0_bellReach_2 rfl (lv_at hl 0 rfl) ?_
  refine k_V1 hc [] cw_X0_68 rfl dX0_bellReach_3 (c_X0_heatNow l hlf g _ a fl hW) hW.o hM hS hl.1 rfl rfl ⟨Nat.le_of_ble_eq_true rfl, Nat.le_of_ble_eq_true rfl⟩ ⟨Nat.le_of_ble_eq_true rfl, Nat.le_of_ble_eq_true rfl⟩ (Nat.le_of_ble_eq_true rfl) (fun H locs hM hS => ?_)
  refine lv_isub hx hb dX0_bellReach_6 ?_
  exact k_iret hc hr dX0_bellReach_7 hM hS (Nat.le_of_ble_eq_true rfl) (Nat.le_of_ble_eq_true rfl) (by rfl)
set_option maxHeartbeats 4000000 in
set_option maxRecDepth 100000 in
theorem c_X0_farFrom (l : Launch) (hlf : l.stackTraces = false) (g : GC) (M : HM) (a : Nat) (fl : FL) (i : Int32) (j : Int32) (hW : FlatAt g M a fl) : KM g l yX0_farFrom cX0_farFrom 3 (some .int) 2 0 0 [.ref a, .int i, .int j] M (.inl (some (.int (farF fl i j)), M)) := by
  refine k_meth hlf (by decide) (Nat.le_of_ble_eq_true rfl) fun p e s m below meth c ls hc hr hnx hM hS hl => ?_
  have hc : Cx g p l s m [.ref a, .int i, .int j].toArray meth c cX0_farFrom 3 RX0 := hc
  have hx := hc.1
  have hb := hc.2.1
  have hl : lv_has ls 3 [(0, .ref a), (1, .int i), (2, .int j)] := hl
  refine lv_aload_n hx hb dX0_farFrom_0 rfl (lv_at hl 0 rfl) ?_
  refine gt_X0_14 hc dX0_farFrom_1 hM hW.o rfl ?_
  refine lv_iload_n hx hb dX0_farFrom_4 rfl (lv_at hl 1 rfl) ?_
  refine k_V1 hc [.int i] cw_X0_72 rfl dX0_farFrom_5 (c_X3_get l hlf g _ (a + 1) 10 (fl 8 0) (fl 0) i (hW.row (k := 0) (r := a + 1) (by decide) rfl rfl) (by decide)) (hW.row (k := 0) (r := a + 1) (by decide) rfl rfl).1 hM hS hl.1 rfl rfl ⟨Nat.le_of_ble_eq_true rfl, Nat.le_of_ble_eq_true rfl⟩ ⟨Nat.le_of_ble_eq_true rfl, Nat.le_of_ble_eq_true rfl⟩ (Nat.le_of_ble_eq_true rfl) (fun H locs hM hS => ?_)
  refine lv_aload_n hx hb dX0_farFrom_8 rfl (lv_at hl 0 rfl) ?_
  refine gt_X0_20 hc dX0_farFrom_9 hM hW.o rfl ?_
  refine lv_iload_n hx hb dX0_farFrom_12 rfl (lv_at hl 2 rfl) ?_
  refine k_V1 hc [.int j] cw_X0_72 rfl dX0_farFrom_13 (c_X3_get l hlf g _ (a + 3) 4 (fl 8 1) (fl 1) j (hW.row (k := 1) (r := a + 3) (by decide) rfl rfl) (by decide)) (hW.row (k := 1) (r := a + 3) (by decide) rfl rfl).1 hM hS hl.1 rfl rfl ⟨Nat.le_of_ble_eq_true rfl, Nat.le_of_ble_eq_true rfl⟩ ⟨Nat.le_of_ble_eq_true rfl, Nat.le_of_ble_eq_true rfl⟩ (Nat.le_of_ble_eq_true rfl) (fun H locs hM hS => ?_)
  refine lv_isub hx hb dX0_farFrom_16 ?_
  refine k_abs hc q_X0_75 dX0_farFrom_17 hl.1 ⟨Nat.le_of_ble_eq_true rfl, Nat.le_of_ble_eq_true rfl, Nat.le_of_ble_eq_true rfl, Nat.le_of_ble_eq_true rfl⟩ ?_
  exact k_iret hc hr dX0_farFrom_20 hM hS (Nat.le_of_ble_eq_true rfl) (Nat.le_of_ble_eq_true rfl) (by rfl)
set_option maxHeartbeats 4000000 in
set_option maxRecDepth 100000 in
theorem c_X0_isTooHot (l : Launch) (hlf : l.stackTraces = false) (g : GC) (M : HM) (h : Int32) (i : Int32) (j : Int32) : KM g l yX0_isTooHot cX0_isTooHot 3 (some .boolean) 1 0 0 [.int h, .int i, .int j] M (.inl (some (.int (bI (tooHot h i j))), M)) := by
  refine k_meth hlf (by decide) (Nat.le_of_ble_eq_true rfl) fun p e s m below meth c ls hc hr hnx hM hS hl => ?_
  have hc : Cx g p l s m [.int h, .int i, .int j].toArray meth c cX0_isTooHot 3 RX0 := hc
  have hx := hc.1
  have hb := hc.2.1
  have hl : lv_has ls 3 [(0, .int h), (1, .int i), (2, .int j)] := hl
  refine lv_iload_n hx hb dX0_isTooHot_0 rfl (lv_at hl 0 rfl) ?_
  refine lv_iload_n hx hb dX0_isTooHot_1 rfl (lv_at hl 1 rfl) ?_
  refine lv_imul hx hb dX0_isTooHot_2 ?_
  refine lv_bipush (v := 10) hx hb dX0_isTooHot_3 (by decide) ?_
  refine lv_idiv hx hb dX0_isTooHot_5 (by decide) ?_
  refine lv_iconst (v := 2) hx hb dX0_isTooHot_6 (by decide) ?_
  refine lv_iload_n hx hb dX0_isTooHot_7 rfl (lv_at hl 2 rfl) ?_
  refine lv_imul hx hb dX0_isTooHot_8 ?_
  refine lv_icmp_le (tgt := 16) hx hb dX0_isTooHot_9 (by decide) (fun c_9 => ?_) (fun c_9 => ?_)
  · skip
    refine lv_iconst (v := 0) hx hb dX0_isTooHot_16 (by decide) ?_
    exact k_zret hc hr dX0_isTooHot_17 hM hS (by first | rfl | exact bI_n) (Nat.le_of_ble_eq_true rfl) (Nat.le_of_ble_eq_true rfl) (by simp only [bI, tooHot, eq_true c_9, not_false_eq_true, not_true_eq_false, and_true, true_and, and_false, false_and, and_self, ↓reduceIte, or_true, true_or, or_self, or_false, false_or])
  · skip
    refine lv_iconst (v := 1) hx hb dX0_isTooHot_12 (by decide) ?_
    refine lv_goto (tgt := 17) hx hb dX0_isTooHot_13 (by decide) ?_
    exact k_zret hc hr dX0_isTooHot_17 hM hS (by first | rfl | exact bI_n) (Nat.le_of_ble_eq_true rfl) (Nat.le_of_ble_eq_true rfl) (by simp only [bI, tooHot, eq_false c_9, not_false_eq_true, not_true_eq_false, and_true, true_and, and_false, false_and, and_self, ↓reduceIte, or_true, true_or, or_self, or_false, false_or])
set_option maxHeartbeats 4000000 in
set_option maxRecDepth 100000 in
theorem c_X0_isShimmering (l : Launch) (hlf : l.stackTraces = false) (g : GC) (M : HM) (a : Nat) (fl : FL) (i : Int32) (j : Int32) (h : Int32) (hW : FlatAt g M a fl) : KM g l yX0_isShimmering cX0_isShimmering 4 (some .boolean) 3 0 0 [.ref a, .int i, .int j, .int h] M (.inl (some (.int (bI (shimF fl i j h))), M)) := by
  refine k_meth hlf (by decide) (Nat.le_of_ble_eq_true rfl) fun p e s m below meth c ls hc hr hnx hM hS hl => ?_
  have hc : Cx g p l s m [.ref a, .int i, .int j, .int h].toArray meth c cX0_isShimmering 4 RX0 := hc
  have hx := hc.1
  have hb := hc.2.1
  have hl : lv_has ls 4 [(0, .ref a), (1, .int i), (2, .int j), (3, .int h)] := hl
  refine lv_iload_n hx hb dX0_isShimmering_0 rfl (lv_at hl 3 rfl) ?_
  refine lv_aload_n hx hb dX0_isShimmering_1 rfl (lv_at hl 0 rfl) ?_
  refine lv_iload_n hx hb dX0_isShimmering_2 rfl (lv_at hl 1 rfl) ?_
  refine lv_iload_n hx hb dX0_isShimmering_3 rfl (lv_at hl 2 rfl) ?_
  refine k_V1 hc [.int i, .int j] cw_X0_80 rfl dX0_isShimmering_4 (c_X0_farFrom l hlf g _ a fl i j hW) hW.o hM hS hl.1 rfl rfl ⟨Nat.le_of_ble_eq_true rfl, Nat.le_of_ble_eq_true rfl⟩ ⟨Nat.le_of_ble_eq_true rfl, Nat.le_of_ble_eq_true rfl⟩ (Nat.le_of_ble_eq_true rfl) (fun H locs hM hS => ?_)
  refine lv_aload_n hx hb dX0_isShimmering_7 rfl (lv_at hl 0 rfl) ?_
  refine gt_X0_23 hc dX0_isShimmering_8 hM hW.o rfl ?_
  refine lv_iload_n hx hb dX0_isShimmering_11 rfl (lv_at hl 2 rfl) ?_
  refine k_V1 hc [.int j] cw_X0_72 rfl dX0_isShimmering_12 (c_X3_get l hlf g _ (a + 5) 4 (fl 8 2) (fl 2) j (hW.row (k := 2) (r := a + 5) (by decide) rfl rfl) (by decide)) (hW.row (k := 2) (r := a + 5) (by decide) rfl rfl).1 hM hS hl.1 rfl rfl ⟨Nat.le_of_ble_eq_true rfl, Nat.le_of_ble_eq_true rfl⟩ ⟨Nat.le_of_ble_eq_true rfl, Nat.le_of_ble_eq_true rfl⟩ (Nat.le_of_ble_eq_true rfl) (fun H locs hM hS => ?_)
  refine k_S1 hc [.int h, .int (farF fl i j), .int (rget 4 (fl 8 2) (fl 2) j)] cw_X0_84 dX0_isShimmering_15 (c_X0_isTooHot l hlf g _ h (farF fl i j) (rget 4 (fl 8 2) (fl 2) j)) hM hS hl.1 rfl rfl ⟨Nat.le_of_ble_eq_true rfl, Nat.le_of_ble_eq_true rfl⟩ ⟨Nat.le_of_ble_eq_true rfl, Nat.le_of_ble_eq_true rfl⟩ (Nat.le_of_ble_eq_true rfl) (fun H locs hM hS => ?_)
  exact k_zret hc hr dX0_isShimmering_18 hM hS (by first | rfl | exact bI_n) (Nat.le_of_ble_eq_true rfl) (Nat.le_of_ble_eq_true rfl) (by rfl)
set_option maxHeartbeats 4000000 in
set_option maxRecDepth 100000 in
theorem c_X0_heatTooMuch (l : Launch) (hlf : l.stackTraces = false) (g : GC) (M : HM) (a : Nat) (fl : FL) (i : Int32) (j : Int32) (hW : FlatAt g M a fl) : KM g l yX0_heatTooMuch cX0_heatTooMuch 6 (some .int) 3 0 0 [.ref a, .int i, .int j] M (.inl (some (.int (htmF fl i j)), M)) := by
  refine k_meth hlf (by decide) (Nat.le_of_ble_eq_true rfl) fun p e s m below meth c ls hc hr hnx hM hS hl => ?_
  have hc : Cx g p l s m [.ref a, .int i, .int j].toArray meth c cX0_heatTooMuch 6 RX0 := hc
  have hx := hc.1
  have hb := hc.2.1
  have hl : lv_has ls 6 [(0, .ref a), (1, .int i), (2, .int j)] := hl
  refine lv_aload_n hx hb dX0_heatTooMuch_0 rfl (lv_at hl 0 rfl) ?_
  refine k_V1 hc [] cw_X0_68 rfl dX0_heatTooMuch_1 (c_X0_heatNow l hlf g _ a fl hW) hW.o hM hS hl.1 rfl rfl ⟨Nat.le_of_ble_eq_true rfl, Nat.le_of_ble_eq_true rfl⟩ ⟨Nat.le_of_ble_eq_true rfl, Nat.le_of_ble_eq_true rfl⟩ (Nat.le_of_ble_eq_true rfl) (fun H locs hM hS => ?_)
  refine lv_istore_n (lv' := [(3, .int (hNow fl)), (0, .ref a), (1, .int i), (2, .int j)]) hx hb dX0_heatTooMuch_4 rfl hl (by decide) rfl (fun ls hl => ?_)
  refine lv_aload_n hx hb dX0_heatTooMuch_5 rfl (lv_at hl 1 rfl) ?_
  refine lv_iload_n hx hb dX0_heatTooMuch_6 rfl (lv_at hl 2 rfl) ?_
  refine lv_iload_n hx hb dX0_heatTooMuch_7 rfl (lv_at hl 3 rfl) ?_
  refine k_V1 hc [.int i, .int j] cw_X0_80 rfl dX0_heatTooMuch_8 (c_X0_farFrom l hlf g _ a fl i j hW) hW.o hM hS hl.1 rfl rfl ⟨Nat.le_of_ble_eq_true rfl, Nat.le_of_ble_eq_true rfl⟩ ⟨Nat.le_of_ble_eq_true rfl, Nat.le_of_ble_eq_true rfl⟩ (Nat.le_of_ble_eq_true rfl) (fun H locs hM hS => ?_)
  refine lv_istore (lv' := [(4, .int (farF fl i j)), (3, .int (hNow fl)), (0, .ref a), (1, .int i), (2, .int j)]) hx hb dX0_heatTooMuch_11 hl (by decide) rfl (fun ls hl => ?_)
  refine lv_iconst (v := 0) hx hb dX0_heatTooMuch_13 (by decide) ?_
  refine lv_istore (lv' := [(5, .int 0), (4, .int (farF fl i j)), (3, .int (hNow fl)), (0, .ref a), (1, .int i), (2, .int j)]) hx hb dX0_heatTooMuch_14 hl (by decide) rfl (fun ls hl => ?_)
  have lp_16 : ∀ (D k : Nat), ((hNow fl).toNatClampNeg) - k < D → k ≤ (hNow fl).toNatClampNeg → (htmF fl i j = fnd (htmP fl i j) ((hNow fl).toNatClampNeg + 1 - k) k) → ∀ (ls : Array Slot) (H : Heap) (locs : List Loc), hR g M H → va_S (gA g) s.heap H locs → lv_has ls 6 [(5, .int (nI k)), (4, .int (farF fl i j)), (3, .int (hNow fl)), (0, .ref a), (1, .int i), (2, .int j)] → W p l e (rmOf 3 0 0) s m [.ref a, .int i, .int j].toArray below meth c H locs 0 0 (vx_MQ below (KQ g (.inl (some (.int (htmF fl i j)), M))) (KX g (.inl (some (.int (htmF fl i j)), M))) [.ref a, .int i, .int j].toArray s 0 0 (gA g)) (F0 m 16 ls []) := by
    intro D
    induction D with
    | zero => intro k hD; exact absurd hD (Nat.not_lt_zero _)
    | succ D ih_16 =>
      intro k hD hk hq ls H locs hM hS hl
      refine lv_iload hx hb dX0_heatTooMuch_16 (lv_at hl 0 rfl) ?_
      refine lv_iload_n hx hb dX0_heatTooMuch_18 rfl (lv_at hl 2 rfl) ?_
      refine lv_icmp_ge (tgt := 48) hx hb dX0_heatTooMuch_19 (by decide) (fun c_19 => ?_) (fun c_19 => ?_)
      · skip
        refine lv_iload hx hb dX0_heatTooMuch_48 (lv_at hl 0 rfl) ?_
        exact k_iret hc hr dX0_heatTooMuch_50 hM hS (Nat.le_of_ble_eq_true rfl) (Nat.le_of_ble_eq_true rfl) (by rw [hq, fnd_hit (by omega) (by unfold htmP; simp only [decide_eq_true_eq]; intro hh; first | exact hh.1 c_19 | exact c_39 hh.2)])
      · skip
        refine lv_iload_n hx hb dX0_heatTooMuch_22 rfl (lv_at hl 2 rfl) ?_
        refine lv_iload hx hb dX0_heatTooMuch_23 (lv_at hl 0 rfl) ?_
        refine lv_isub hx hb dX0_heatTooMuch_25 ?_
        refine lv_iload hx hb dX0_heatTooMuch_26 (lv_at hl 1 rfl) ?_
        refine lv_aload_n hx hb dX0_heatTooMuch_28 rfl (lv_at hl 3 rfl) ?_
        refine gt_X0_23 hc dX0_heatTooMuch_29 hM hW.o rfl ?_
        refine lv_iload_n hx hb dX0_heatTooMuch_32 rfl (lv_at hl 5 rfl) ?_
        refine k_V1 hc [.int j] cw_X0_72 rfl dX0_heatTooMuch_33 (c_X3_get l hlf g _ (a + 5) 4 (fl 8 2) (fl 2) j (hW.row (k := 2) (r := a + 5) (by decide) rfl rfl) (by decide)) (hW.row (k := 2) (r := a + 5) (by decide) rfl rfl).1 hM hS hl.1 rfl rfl ⟨Nat.le_of_ble_eq_true rfl, Nat.le_of_ble_eq_true rfl⟩ ⟨Nat.le_of_ble_eq_true rfl, Nat.le_of_ble_eq_true rfl⟩ (Nat.le_of_ble_eq_true rfl) (fun H locs hM hS => ?_)
        refine k_S1 hc [.int ((hNow fl) - (nI k)), .int (farF fl i j), .int (rget 4 (fl 8 2) (fl 2) j)] cw_X0_84 dX0_heatTooMuch_36 (c_X0_isTooHot l hlf g _ ((hNow fl) - (nI k)) (farF fl i j) (rget 4 (fl 8 2) (fl 2) j)) hM hS hl.1 rfl rfl ⟨Nat.le_of_ble_eq_true rfl, Nat.le_of_ble_eq_true rfl⟩ ⟨Nat.le_of_ble_eq_true rfl, Nat.le_of_ble_eq_true rfl⟩ (Nat.le_of_ble_eq_true rfl) (fun H locs hM hS => ?_)
        refine lv_if_eq (tgt := 48) hx hb dX0_heatTooMuch_39 (by decide) (fun c_39 => ?_) (fun c_39 => ?_)
        · skip
          have c_39 := bI_eq.mp c_39
          refine lv_iload hx hb dX0_heatTooMuch_48 (lv_at hl 0 rfl) ?_
          exact k_iret hc hr dX0_heatTooMuch_50 hM hS (Nat.le_of_ble_eq_true rfl) (Nat.le_of_ble_eq_true rfl) (by rw [hq, fnd_hit (by omega) (by unfold htmP; simp only [decide_eq_true_eq]; intro hh; first | exact hh.1 c_19 | exact c_39 hh.2)])
        · skip
          have c_39 := bI_ne.mp c_39
          refine lv_iinc (v := (nI (k + 1))) (lv' := [(5, .int (nI (k + 1))), (4, .int (farF fl i j)), (3, .int (hNow fl)), (0, .ref a), (1, .int i), (2, .int j)]) hx hb dX0_heatTooMuch_42 hl (k := 0) rfl (k_inc1 _) (by decide) rfl (fun ls hl => ?_)
          refine lv_goto (tgt := 16) hx hb dX0_heatTooMuch_45 (by decide) ?_
          exact ih_16 (k + 1) (by have := (not_congr (k_le (x := hNow fl) (k := k) (by have := k_clamp_lt (hNow fl); omega))).mp c_19; omega) (by have := (not_congr (k_le (x := hNow fl) (k := k) (by have := k_clamp_lt (hNow fl); omega))).mp c_19; omega) (hq.trans (fnd_next (by omega) (by unfold htmP; simp only [decide_eq_true_eq]; exact fun hh => hh ⟨c_19, c_39⟩))) ls _ _ hM hS (lv_sub hl [0, 1, 2, 3, 4, 5] rfl)
  have z_5 : 0 = (nI 0) := rfl
  have hl := lv_chg (lv_sub hl [0, 1, 2, 3, 4, 5] rfl) z_5
  exact lp_16 ((hNow fl).toNatClampNeg + 1) 0 (by omega) (by omega) rfl ls _ _ hM hS (lv_sub hl [0, 1, 2, 3, 4, 5] rfl)
set_option maxHeartbeats 4000000 in
set_option maxRecDepth 100000 in
theorem c_X0_bending (l : Launch) (hlf : l.stackTraces = false) (g : GC) (M : HM) (a : Nat) (fl : FL) (i : Int32) (j : Int32) (hW : FlatAt g M a fl) : KM g l yX0_bending cX0_bending 3 (some .int) 3 0 0 [.ref a, .int i, .int j] M (.inl (some (.int (bendF fl i j)), M)) := by
  refine k_meth hlf (by decide) (Nat.le_of_ble_eq_true rfl) fun p e s m below meth c ls hc hr hnx hM hS hl => ?_
  have hc : Cx g p l s m [.ref a, .int i, .int j].toArray meth c cX0_bending 3 RX0 := hc
  have hx := hc.1
  have hb := hc.2.1
  have hl : lv_has ls 3 [(0, .ref a), (1, .int i), (2, .int j)] := hl
  refine lv_aload_n hx hb dX0_bending_0 rfl (lv_at hl 0 rfl) ?_
  refine k_V1 hc [] cw_X0_68 rfl dX0_bending_1 (c_X0_heatNow l hlf g _ a fl hW) hW.o hM hS hl.1 rfl rfl ⟨Nat.le_of_ble_eq_true rfl, Nat.le_of_ble_eq_true rfl⟩ ⟨Nat.le_of_ble_eq_true rfl, Nat.le_of_ble_eq_true rfl⟩ (Nat.le_of_ble_eq_true rfl) (fun H locs hM hS => ?_)
  refine lv_aload_n hx hb dX0_bending_4 rfl (lv_at hl 0 rfl) ?_
  refine lv_iload_n hx hb dX0_bending_5 rfl (lv_at hl 1 rfl) ?_
  refine lv_iload_n hx hb dX0_bending_6 rfl (lv_at hl 2 rfl) ?_
  refine k_V1 hc [.int i, .int j] cw_X0_80 rfl dX0_bending_7 (c_X0_farFrom l hlf g _ a fl i j hW) hW.o hM hS hl.1 rfl rfl ⟨Nat.le_of_ble_eq_true rfl, Nat.le_of_ble_eq_true rfl⟩ ⟨Nat.le_of_ble_eq_true rfl, Nat.le_of_ble_eq_true rfl⟩ (Nat.le_of_ble_eq_true rfl) (fun H locs hM hS => ?_)
  refine lv_imul hx hb dX0_bending_10 ?_
  refine lv_bipush (v := 50) hx hb dX0_bending_11 (by decide) ?_
  refine lv_idiv hx hb dX0_bending_13 (by decide) ?_
  exact k_iret hc hr dX0_bending_14 hM hS (Nat.le_of_ble_eq_true rfl) (Nat.le_of_ble_eq_true rfl) (by rfl)
set_option maxHeartbeats 4000000 in
set_option maxRecDepth 100000 in
theorem c_X0_bendingWay (l : Launch) (hlf : l.stackTraces = false) (g : GC) (M : HM) (a : Nat) (fl : FL) (i : Int32) (j : Int32) (hW : FlatAt g M a fl) : KM g l yX0_bendingWay cX0_bendingWay 4 (some .int) 2 0 0 [.ref a, .int i, .int j] M (.inl (some (.int (bwF fl i j)), M)) := by
  refine k_meth hlf (by decide) (Nat.le_of_ble_eq_true rfl) fun p e s m below meth c ls hc hr hnx hM hS hl => ?_
  have hc : Cx g p l s m [.ref a, .int i, .int j].toArray meth c cX0_bendingWay 4 RX0 := hc
  have hx := hc.1
  have hb := hc.2.1
  have hl : lv_has ls 4 [(0, .ref a), (1, .int i), (2, .int j)] := hl
  refine lv_aload_n hx hb dX0_bendingWay_0 rfl (lv_at hl 0 rfl) ?_
  refine gt_X0_20 hc dX0_bendingWay_1 hM hW.o rfl ?_
  refine lv_iload_n hx hb dX0_bendingWay_4 rfl (lv_at hl 2 rfl) ?_
  refine k_V1 hc [.int j] cw_X0_72 rfl dX0_bendingWay_5 (c_X3_get l hlf g _ (a + 3) 4 (fl 8 1) (fl 1) j (hW.row (k := 1) (r := a + 3) (by decide) rfl rfl) (by decide)) (hW.row (k := 1) (r := a + 3) (by decide) rfl rfl).1 hM hS hl.1 rfl rfl ⟨Nat.le_of_ble_eq_true rfl, Nat.le_of_ble_eq_true rfl⟩ ⟨Nat.le_of_ble_eq_true rfl, Nat.le_of_ble_eq_true rfl⟩ (Nat.le_of_ble_eq_true rfl) (fun H locs hM hS => ?_)
  refine lv_aload_n hx hb dX0_bendingWay_8 rfl (lv_at hl 0 rfl) ?_
  refine gt_X0_14 hc dX0_bendingWay_9 hM hW.o rfl ?_
  refine lv_iload_n hx hb dX0_bendingWay_12 rfl (lv_at hl 1 rfl) ?_
  refine k_V1 hc [.int i] cw_X0_72 rfl dX0_bendingWay_13 (c_X3_get l hlf g _ (a + 1) 10 (fl 8 0) (fl 0) i (hW.row (k := 0) (r := a + 1) (by decide) rfl rfl) (by decide)) (hW.row (k := 0) (r := a + 1) (by decide) rfl rfl).1 hM hS hl.1 rfl rfl ⟨Nat.le_of_ble_eq_true rfl, Nat.le_of_ble_eq_true rfl⟩ ⟨Nat.le_of_ble_eq_true rfl, Nat.le_of_ble_eq_true rfl⟩ (Nat.le_of_ble_eq_true rfl) (fun H locs hM hS => ?_)
  refine k_SN1 hc [.int (rget 4 (fl 8 1) (fl 1) j), .int (rget 10 (fl 8 0) (fl 0) i)] cw_X0_88 dX0_bendingWay_16 (c_X5_wayTo l hlf g _ (rget 4 (fl 8 1) (fl 1) j) (rget 10 (fl 8 0) (fl 0) i)) hM hS hl.1 rfl rfl ⟨Nat.le_of_ble_eq_true rfl, Nat.le_of_ble_eq_true rfl⟩ ⟨Nat.le_of_ble_eq_true rfl, Nat.le_of_ble_eq_true rfl⟩ (Nat.le_of_ble_eq_true rfl) (fun H locs hM hS => ?_)
  refine lv_istore_n (lv' := [(3, .int (wayI (rget 4 (fl 8 1) (fl 1) j) (rget 10 (fl 8 0) (fl 0) i))), (0, .ref a), (1, .int i), (2, .int j)]) hx hb dX0_bendingWay_19 rfl hl (by decide) rfl (fun ls hl => ?_)
  refine lv_aload_n hx hb dX0_bendingWay_20 rfl (lv_at hl 1 rfl) ?_
  refine gt_X0_45 hc dX0_bendingWay_21 hM hW.o rfl ?_
  refine lv_bipush (v := 24) hx hb dX0_bendingWay_24 (by decide) ?_
  refine lv_irem hx hb dX0_bendingWay_26 (by decide) ?_
  refine lv_bipush (v := 12) hx hb dX0_bendingWay_27 (by decide) ?_
  refine lv_icmp_ge (tgt := 36) hx hb dX0_bendingWay_29 (by decide) (fun c_29 => ?_) (fun c_29 => ?_)
  · skip
    refine lv_iload_n hx hb dX0_bendingWay_36 rfl (lv_at hl 0 rfl) ?_
    refine lv_ineg hx hb dX0_bendingWay_37 ?_
    exact k_iret hc hr dX0_bendingWay_38 hM hS (Nat.le_of_ble_eq_true rfl) (Nat.le_of_ble_eq_true rfl) (by simp only [bwF, ofD, eq_true c_29, not_false_eq_true, not_true_eq_false, and_true, true_and, and_false, false_and, and_self, ↓reduceIte, or_true, true_or, or_self, or_false, false_or])
  · skip
    refine lv_iload_n hx hb dX0_bendingWay_32 rfl (lv_at hl 0 rfl) ?_
    refine lv_goto (tgt := 38) hx hb dX0_bendingWay_33 (by decide) ?_
    exact k_iret hc hr dX0_bendingWay_38 hM hS (Nat.le_of_ble_eq_true rfl) (Nat.le_of_ble_eq_true rfl) (by simp only [bwF, ofD, eq_false c_29, not_false_eq_true, not_true_eq_false, and_true, true_and, and_false, false_and, and_self, ↓reduceIte, or_true, true_or, or_self, or_false, false_or])
set_option maxHeartbeats 4000000 in
set_option maxRecDepth 100000 in
theorem c_X0_seemingPlace (l : Launch) (hlf : l.stackTraces = false) (g : GC) (M : HM) (a : Nat) (fl : FL) (i : Int32) (j : Int32) (hW : FlatAt g M a fl) : KM g l yX0_seemingPlace cX0_seemingPlace 3 (some .int) 4 0 0 [.ref a, .int i, .int j] M (.inl (some (.int (seemF fl i j)), M)) := by
  refine k_meth hlf (by decide) (Nat.le_of_ble_eq_true rfl) fun p e s m below meth c ls hc hr hnx hM hS hl => ?_
  have hc : Cx g p l s m [.ref a, .int i, .int j].toArray meth c cX0_seemingPlace 3 RX0 := hc
  have hx := hc.1
  have hb := hc.2.1
  have hl : lv_has ls 3 [(0, .ref a), (1, .int i), (2, .int j)] := hl
  refine lv_aload_n hx hb dX0_seemingPlace_0 rfl (lv_at hl 0 rfl) ?_
  refine gt_X0_14 hc dX0_seemingPlace_1 hM hW.o rfl ?_
  refine lv_iload_n hx hb dX0_seemingPlace_4 rfl (lv_at hl 1 rfl) ?_
  refine k_V1 hc [.int i] cw_X0_72 rfl dX0_seemingPlace_5 (c_X3_get l hlf g _ (a + 1) 10 (fl 8 0) (fl 0) i (hW.row (k := 0) (r := a + 1) (by decide) rfl rfl) (by decide)) (hW.row (k := 0) (r := a + 1) (by decide) rfl rfl).1 hM hS hl.1 rfl rfl ⟨Nat.le_of_ble_eq_true rfl, Nat.le_of_ble_eq_true rfl⟩ ⟨Nat.le_of_ble_eq_true rfl, Nat.le_of_ble_eq_true rfl⟩ (Nat.le_of_ble_eq_true rfl) (fun H locs hM hS => ?_)
  refine lv_aload_n hx hb dX0_seemingPlace_8 rfl (lv_at hl 0 rfl) ?_
  refine lv_iload_n hx hb dX0_seemingPlace_9 rfl (lv_at hl 1 rfl) ?_
  refine lv_iload_n hx hb dX0_seemingPlace_10 rfl (lv_at hl 2 rfl) ?_
  refine k_V1 hc [.int i, .int j] cw_X0_91 rfl dX0_seemingPlace_11 (c_X0_bendingWay l hlf g _ a fl i j hW) hW.o hM hS hl.1 rfl rfl ⟨Nat.le_of_ble_eq_true rfl, Nat.le_of_ble_eq_true rfl⟩ ⟨Nat.le_of_ble_eq_true rfl, Nat.le_of_ble_eq_true rfl⟩ (Nat.le_of_ble_eq_true rfl) (fun H locs hM hS => ?_)
  refine lv_aload_n hx hb dX0_seemingPlace_14 rfl (lv_at hl 0 rfl) ?_
  refine lv_iload_n hx hb dX0_seemingPlace_15 rfl (lv_at hl 1 rfl) ?_
  refine lv_iload_n hx hb dX0_seemingPlace_16 rfl (lv_at hl 2 rfl) ?_
  refine k_V1 hc [.int i, .int j] cw_X0_94 rfl dX0_seemingPlace_17 (c_X0_bending l hlf g _ a fl i j hW) hW.o hM hS hl.1 rfl rfl ⟨Nat.le_of_ble_eq_true rfl, Nat.le_of_ble_eq_true rfl⟩ ⟨Nat.le_of_ble_eq_true rfl, Nat.le_of_ble_eq_true rfl⟩ (Nat.le_of_ble_eq_true rfl) (fun H locs hM hS => ?_)
  refine lv_imul hx hb dX0_seemingPlace_20 ?_
  refine lv_iadd hx hb dX0_seemingPlace_21 ?_
  refine k_SN1 hc [.int ((rget 10 (fl 8 0) (fl 0) i) + ((bwF fl i j) * (bendF fl i j)))] cw_X0_97 dX0_seemingPlace_22 (c_X5_nearestPlace l hlf g _ ((rget 10 (fl 8 0) (fl 0) i) + ((bwF fl i j) * (bendF fl i j)))) hM hS hl.1 rfl rfl ⟨Nat.le_of_ble_eq_true rfl, Nat.le_of_ble_eq_true rfl⟩ ⟨Nat.le_of_ble_eq_true rfl, Nat.le_of_ble_eq_true rfl⟩ (Nat.le_of_ble_eq_true rfl) (fun H locs hM hS => ?_)
  exact k_iret hc hr dX0_seemingPlace_25 hM hS (Nat.le_of_ble_eq_true rfl) (Nat.le_of_ble_eq_true rfl) (by rfl)
set_option maxHeartbeats 4000000 in
set_option maxRecDepth 100000 in
theorem c_X0_walkedPlace (l : Launch) (hlf : l.stackTraces = false) (g : GC) (M : HM) (a : Nat) (fl : FL) (i : Int32) (j : Int32) (hW : FlatAt g M a fl) : KM g l yX0_walkedPlace cX0_walkedPlace 6 (some .int) 4 0 0 [.ref a, .int i, .int j] M (.inl (some (.int (walkF fl i j)), M)) := by
  refine k_meth hlf (by decide) (Nat.le_of_ble_eq_true rfl) fun p e s m below meth c ls hc hr hnx hM hS hl => ?_
  have hc : Cx g p l s m [.ref a, .int i, .int j].toArray meth c cX0_walkedPlace 6 RX0 := hc
  have hx := hc.1
  have hb := hc.2.1
  have hl : lv_has ls 6 [(0, .ref a), (1, .int i), (2, .int j)] := hl
  refine lv_aload_n hx hb dX0_walkedPlace_0 rfl (lv_at hl 0 rfl) ?_
  refine lv_iload_n hx hb dX0_walkedPlace_1 rfl (lv_at hl 1 rfl) ?_
  refine lv_iload_n hx hb dX0_walkedPlace_2 rfl (lv_at hl 2 rfl) ?_
  refine k_V1 hc [.int i, .int j] cw_X0_91 rfl dX0_walkedPlace_3 (c_X0_bendingWay l hlf g _ a fl i j hW) hW.o hM hS hl.1 rfl rfl ⟨Nat.le_of_ble_eq_true rfl, Nat.le_of_ble_eq_true rfl⟩ ⟨Nat.le_of_ble_eq_true rfl, Nat.le_of_ble_eq_true rfl⟩ (Nat.le_of_ble_eq_true rfl) (fun H locs hM hS => ?_)
  refine lv_istore_n (lv' := [(3, .int (bwF fl i j)), (0, .ref a), (1, .int i), (2, .int j)]) hx hb dX0_walkedPlace_6 rfl hl (by decide) rfl (fun ls hl => ?_)
  refine lv_aload_n hx hb dX0_walkedPlace_7 rfl (lv_at hl 1 rfl) ?_
  refine gt_X0_14 hc dX0_walkedPlace_8 hM hW.o rfl ?_
  refine lv_iload_n hx hb dX0_walkedPlace_11 rfl (lv_at hl 2 rfl) ?_
  refine k_V1 hc [.int i] cw_X0_72 rfl dX0_walkedPlace_12 (c_X3_get l hlf g _ (a + 1) 10 (fl 8 0) (fl 0) i (hW.row (k := 0) (r := a + 1) (by decide) rfl rfl) (by decide)) (hW.row (k := 0) (r := a + 1) (by decide) rfl rfl).1 hM hS hl.1 rfl rfl ⟨Nat.le_of_ble_eq_true rfl, Nat.le_of_ble_eq_true rfl⟩ ⟨Nat.le_of_ble_eq_true rfl, Nat.le_of_ble_eq_true rfl⟩ (Nat.le_of_ble_eq_true rfl) (fun H locs hM hS => ?_)
  refine lv_istore (lv' := [(4, .int (rget 10 (fl 8 0) (fl 0) i)), (3, .int (bwF fl i j)), (0, .ref a), (1, .int i), (2, .int j)]) hx hb dX0_walkedPlace_15 hl (by decide) rfl (fun ls hl => ?_)
  refine lv_aload_n hx hb dX0_walkedPlace_17 rfl (lv_at hl 2 rfl) ?_
  refine lv_iload_n hx hb dX0_walkedPlace_18 rfl (lv_at hl 3 rfl) ?_
  refine lv_iload_n hx hb dX0_walkedPlace_19 rfl (lv_at hl 4 rfl) ?_
  refine k_V1 hc [.int i, .int j] cw_X0_94 rfl dX0_walkedPlace_20 (c_X0_bending l hlf g _ a fl i j hW) hW.o hM hS hl.1 rfl rfl ⟨Nat.le_of_ble_eq_true rfl, Nat.le_of_ble_eq_true rfl⟩ ⟨Nat.le_of_ble_eq_true rfl, Nat.le_of_ble_eq_true rfl⟩ (Nat.le_of_ble_eq_true rfl) (fun H locs hM hS => ?_)
  refine lv_istore (lv' := [(5, .int (bendF fl i j)), (4, .int (rget 10 (fl 8 0) (fl 0) i)), (3, .int (bwF fl i j)), (0, .ref a), (1, .int i), (2, .int j)]) hx hb dX0_walkedPlace_23 hl (by decide) rfl (fun ls hl => ?_)
  have lp_25 : ∀ (D k : Nat) (u : Int32) (v : Int32), ((bendF fl i j).toNatClampNeg) - k < D → k ≤ (bendF fl i j).toNatClampNeg → (u.toNatClampNeg = (bendF fl i j).toNatClampNeg - k) → (walkF fl i j = wlk (bwF fl i j) ((bendF fl i j).toNatClampNeg - k) v) → ∀ (ls : Array Slot) (H : Heap) (locs : List Loc), hR g M H → va_S (gA g) s.heap H locs → lv_has ls 6 [(5, .int u), (4, .int v), (3, .int (bwF fl i j)), (0, .ref a), (1, .int i), (2, .int j)] → W p l e (rmOf 4 0 0) s m [.ref a, .int i, .int j].toArray below meth c H locs 0 0 (vx_MQ below (KQ g (.inl (some (.int (walkF fl i j)), M))) (KX g (.inl (some (.int (walkF fl i j)), M))) [.ref a, .int i, .int j].toArray s 0 0 (gA g)) (F0 m 25 ls []) := by
    intro D
    induction D with
    | zero => intro k u v hD; exact absurd hD (Nat.not_lt_zero _)
    | succ D ih_25 =>
      intro k u v hD hk hu hq ls H locs hM hS hl
      refine lv_iload hx hb dX0_walkedPlace_25 (lv_at hl 0 rfl) ?_
      refine lv_if_le (tgt := 52) hx hb dX0_walkedPlace_27 (by decide) (fun c_27 => ?_) (fun c_27 => ?_)
      · skip
        refine lv_iload hx hb dX0_walkedPlace_52 (lv_at hl 1 rfl) ?_
        exact k_iret hc hr dX0_walkedPlace_54 hM hS (Nat.le_of_ble_eq_true rfl) (Nat.le_of_ble_eq_true rfl) (by first | (have h0 := clamp_zero c_27; rw [hq, show (bendF fl i j).toNatClampNeg - k = 0 by omega]; rfl) | (have h0 := clamp_pos c_27; rw [hq, show (bendF fl i j).toNatClampNeg - k = ((bendF fl i j).toNatClampNeg - (k + 1)) + 1 by omega]; rw [wlk, if_neg c_37]))
      · skip
        refine lv_iload hx hb dX0_walkedPlace_30 (lv_at hl 1 rfl) ?_
        refine lv_iload_n hx hb dX0_walkedPlace_32 rfl (lv_at hl 2 rfl) ?_
        refine lv_iadd hx hb dX0_walkedPlace_33 ?_
        refine k_SN1 hc [.int (v + (bwF fl i j))] cw_X0_100 dX0_walkedPlace_34 (c_X5_isPlace l hlf g _ (v + (bwF fl i j))) hM hS hl.1 rfl rfl ⟨Nat.le_of_ble_eq_true rfl, Nat.le_of_ble_eq_true rfl⟩ ⟨Nat.le_of_ble_eq_true rfl, Nat.le_of_ble_eq_true rfl⟩ (Nat.le_of_ble_eq_true rfl) (fun H locs hM hS => ?_)
        refine lv_if_eq (tgt := 52) hx hb dX0_walkedPlace_37 (by decide) (fun c_37 => ?_) (fun c_37 => ?_)
        · skip
          have c_37 := bI_eq.mp c_37
          refine lv_iload hx hb dX0_walkedPlace_52 (lv_at hl 1 rfl) ?_
          exact k_iret hc hr dX0_walkedPlace_54 hM hS (Nat.le_of_ble_eq_true rfl) (Nat.le_of_ble_eq_true rfl) (by first | (have h0 := clamp_zero c_27; rw [hq, show (bendF fl i j).toNatClampNeg - k = 0 by omega]; rfl) | (have h0 := clamp_pos c_27; rw [hq, show (bendF fl i j).toNatClampNeg - k = ((bendF fl i j).toNatClampNeg - (k + 1)) + 1 by omega]; rw [wlk, if_neg c_37]))
        · skip
          have c_37 := bI_ne.mp c_37
          refine lv_iload hx hb dX0_walkedPlace_40 (lv_at hl 1 rfl) ?_
          refine lv_iload_n hx hb dX0_walkedPlace_42 rfl (lv_at hl 2 rfl) ?_
          refine lv_iadd hx hb dX0_walkedPlace_43 ?_
          refine lv_istore (lv' := [(4, .int (v + (bwF fl i j))), (5, .int u), (3, .int (bwF fl i j)), (0, .ref a), (1, .int i), (2, .int j)]) hx hb dX0_walkedPlace_44 hl (by decide) rfl (fun ls hl => ?_)
          refine lv_iinc (v := (u + (-1))) (lv' := [(5, .int (u + (-1))), (4, .int (v + (bwF fl i j))), (3, .int (bwF fl i j)), (0, .ref a), (1, .int i), (2, .int j)]) hx hb dX0_walkedPlace_46 hl (k := 1) rfl rfl (by decide) rfl (fun ls hl => ?_)
          refine lv_goto (tgt := 25) hx hb dX0_walkedPlace_49 (by decide) ?_
          have z_5 : (u + (-1)) = (u + -1) := rfl
          have hl := lv_chg (lv_sub hl [0, 1, 2, 3, 4, 5] rfl) z_5
          exact ih_25 (k + 1) (u + -1) (v + (bwF fl i j)) (by have := clamp_pos c_27; omega) (by have := clamp_pos c_27; omega) (by have := clamp_pos c_27; omega) (by have h0 := clamp_pos c_27; rw [hq, show (bendF fl i j).toNatClampNeg - k = ((bendF fl i j).toNatClampNeg - (k + 1)) + 1 by omega]; rw [wlk, if_pos c_37]) ls _ _ hM hS (lv_sub hl [0, 1, 2, 3, 4, 5] rfl)
  have z_4 : (rget 10 (fl 8 0) (fl 0) i) = (gS fl i) := rfl
  have hl := lv_chg (lv_sub hl [1, 0, 2, 3, 4, 5] rfl) z_4
  exact lp_25 ((bendF fl i j).toNatClampNeg + 1) 0 (bendF fl i j) (gS fl i) (by omega) (by omega) rfl rfl ls _ _ hM hS (lv_sub hl [1, 0, 2, 3, 4, 5] rfl)
set_option maxHeartbeats 4000000 in
set_option maxRecDepth 100000 in
theorem c_X0_isBetterPost (l : Launch) (hlf : l.stackTraces = false) (g : GC) (M : HM) (a : Nat) (fl : FL) (i : Int32) (j : Int32) (o : Int32) (hW : FlatAt g M a fl) : KM g l yX0_isBetterPost cX0_isBetterPost 6 (some .boolean) 5 0 0 [.ref a, .int i, .int j, .int o] M (.inl (some (.int (bI (betF fl i j o))), M)) := by
  refine k_meth hlf (by decide) (Nat.le_of_ble_eq_true rfl) fun p e s m below meth c ls hc hr hnx hM hS hl => ?_
  have hc : Cx g p l s m [.ref a, .int i, .int j, .int o].toArray meth c cX0_isBetterPost 6 RX0 := hc
  have hx := hc.1
  have hb := hc.2.1
  have hl : lv_has ls 6 [(0, .ref a), (1, .int i), (2, .int j), (3, .int o)] := hl
  refine lv_aload_n hx hb dX0_isBetterPost_0 rfl (lv_at hl 0 rfl) ?_
  refine lv_iload_n hx hb dX0_isBetterPost_1 rfl (lv_at hl 1 rfl) ?_
  refine lv_iload_n hx hb dX0_isBetterPost_2 rfl (lv_at hl 2 rfl) ?_
  refine k_V1 hc [.int i, .int j] cw_X0_113 rfl dX0_isBetterPost_3 (c_X0_seemingPlace l hlf g _ a fl i j hW) hW.o hM hS hl.1 rfl rfl ⟨Nat.le_of_ble_eq_true rfl, Nat.le_of_ble_eq_true rfl⟩ ⟨Nat.le_of_ble_eq_true rfl, Nat.le_of_ble_eq_true rfl⟩ (Nat.le_of_ble_eq_true rfl) (fun H locs hM hS => ?_)
  refine lv_aload_n hx hb dX0_isBetterPost_6 rfl (lv_at hl 0 rfl) ?_
  refine gt_X0_14 hc dX0_isBetterPost_7 hM hW.o rfl ?_
  refine lv_iload_n hx hb dX0_isBetterPost_10 rfl (lv_at hl 1 rfl) ?_
  refine k_V1 hc [.int i] cw_X0_72 rfl dX0_isBetterPost_11 (c_X3_get l hlf g _ (a + 1) 10 (fl 8 0) (fl 0) i (hW.row (k := 0) (r := a + 1) (by decide) rfl rfl) (by decide)) (hW.row (k := 0) (r := a + 1) (by decide) rfl rfl).1 hM hS hl.1 rfl rfl ⟨Nat.le_of_ble_eq_true rfl, Nat.le_of_ble_eq_true rfl⟩ ⟨Nat.le_of_ble_eq_true rfl, Nat.le_of_ble_eq_true rfl⟩ (Nat.le_of_ble_eq_true rfl) (fun H locs hM hS => ?_)
  refine lv_isub hx hb dX0_isBetterPost_14 ?_
  refine k_abs hc q_X0_75 dX0_isBetterPost_15 hl.1 ⟨Nat.le_of_ble_eq_true rfl, Nat.le_of_ble_eq_true rfl, Nat.le_of_ble_eq_true rfl, Nat.le_of_ble_eq_true rfl⟩ ?_
  refine lv_istore (lv' := [(4, .int (absI ((seemF fl i j) - (rget 10 (fl 8 0) (fl 0) i)))), (0, .ref a), (1, .int i), (2, .int j), (3, .int o)]) hx hb dX0_isBetterPost_18 hl (by decide) rfl (fun ls hl => ?_)
  refine lv_aload_n hx hb dX0_isBetterPost_20 rfl (lv_at hl 1 rfl) ?_
  refine lv_iload_n hx hb dX0_isBetterPost_21 rfl (lv_at hl 2 rfl) ?_
  refine lv_iload_n hx hb dX0_isBetterPost_22 rfl (lv_at hl 4 rfl) ?_
  refine k_V1 hc [.int i, .int o] cw_X0_113 rfl dX0_isBetterPost_23 (c_X0_seemingPlace l hlf g _ a fl i o hW) hW.o hM hS hl.1 rfl rfl ⟨Nat.le_of_ble_eq_true rfl, Nat.le_of_ble_eq_true rfl⟩ ⟨Nat.le_of_ble_eq_true rfl, Nat.le_of_ble_eq_true rfl⟩ (Nat.le_of_ble_eq_true rfl) (fun H locs hM hS => ?_)
  refine lv_aload_n hx hb dX0_isBetterPost_26 rfl (lv_at hl 1 rfl) ?_
  refine gt_X0_14 hc dX0_isBetterPost_27 hM hW.o rfl ?_
  refine lv_iload_n hx hb dX0_isBetterPost_30 rfl (lv_at hl 2 rfl) ?_
  refine k_V1 hc [.int i] cw_X0_72 rfl dX0_isBetterPost_31 (c_X3_get l hlf g _ (a + 1) 10 (fl 8 0) (fl 0) i (hW.row (k := 0) (r := a + 1) (by decide) rfl rfl) (by decide)) (hW.row (k := 0) (r := a + 1) (by decide) rfl rfl).1 hM hS hl.1 rfl rfl ⟨Nat.le_of_ble_eq_true rfl, Nat.le_of_ble_eq_true rfl⟩ ⟨Nat.le_of_ble_eq_true rfl, Nat.le_of_ble_eq_true rfl⟩ (Nat.le_of_ble_eq_true rfl) (fun H locs hM hS => ?_)
  refine lv_isub hx hb dX0_isBetterPost_34 ?_
  refine k_abs hc q_X0_75 dX0_isBetterPost_35 hl.1 ⟨Nat.le_of_ble_eq_true rfl, Nat.le_of_ble_eq_true rfl, Nat.le_of_ble_eq_true rfl, Nat.le_of_ble_eq_true rfl⟩ ?_
  refine lv_istore (lv' := [(5, .int (absI ((seemF fl i o) - (rget 10 (fl 8 0) (fl 0) i)))), (4, .int (absI ((seemF fl i j) - (rget 10 (fl 8 0) (fl 0) i)))), (0, .ref a), (1, .int i), (2, .int j), (3, .int o)]) hx hb dX0_isBetterPost_38 hl (by decide) rfl (fun ls hl => ?_)
  refine lv_iload hx hb dX0_isBetterPost_40 (lv_at hl 1 rfl) ?_
  refine lv_iload hx hb dX0_isBetterPost_42 (lv_at hl 0 rfl) ?_
  refine lv_icmp_eq (tgt := 60) hx hb dX0_isBetterPost_44 (by decide) (fun c_44 => ?_) (fun c_44 => ?_)
  · skip
    refine lv_aload_n hx hb dX0_isBetterPost_60 rfl (lv_at hl 2 rfl) ?_
    refine gt_X0_23 hc dX0_isBetterPost_61 hM hW.o rfl ?_
    refine lv_iload_n hx hb dX0_isBetterPost_64 rfl (lv_at hl 4 rfl) ?_
    refine k_V1 hc [.int j] cw_X0_72 rfl dX0_isBetterPost_65 (c_X3_get l hlf g _ (a + 5) 4 (fl 8 2) (fl 2) j (hW.row (k := 2) (r := a + 5) (by decide) rfl rfl) (by decide)) (hW.row (k := 2) (r := a + 5) (by decide) rfl rfl).1 hM hS hl.1 rfl rfl ⟨Nat.le_of_ble_eq_true rfl, Nat.le_of_ble_eq_true rfl⟩ ⟨Nat.le_of_ble_eq_true rfl, Nat.le_of_ble_eq_true rfl⟩ (Nat.le_of_ble_eq_true rfl) (fun H locs hM hS => ?_)
    refine lv_aload_n hx hb dX0_isBetterPost_68 rfl (lv_at hl 2 rfl) ?_
    refine gt_X0_23 hc dX0_isBetterPost_69 hM hW.o rfl ?_
    refine lv_iload_n hx hb dX0_isBetterPost_72 rfl (lv_at hl 5 rfl) ?_
    refine k_V1 hc [.int o] cw_X0_72 rfl dX0_isBetterPost_73 (c_X3_get l hlf g _ (a + 5) 4 (fl 8 2) (fl 2) o (hW.row (k := 2) (r := a + 5) (by decide) rfl rfl) (by decide)) (hW.row (k := 2) (r := a + 5) (by decide) rfl rfl).1 hM hS hl.1 rfl rfl ⟨Nat.le_of_ble_eq_true rfl, Nat.le_of_ble_eq_true rfl⟩ ⟨Nat.le_of_ble_eq_true rfl, Nat.le_of_ble_eq_true rfl⟩ (Nat.le_of_ble_eq_true rfl) (fun H locs hM hS => ?_)
    refine lv_icmp_le (tgt := 83) hx hb dX0_isBetterPost_76 (by decide) (fun c_76 => ?_) (fun c_76 => ?_)
    · skip
      refine lv_iconst (v := 0) hx hb dX0_isBetterPost_83 (by decide) ?_
      exact k_zret hc hr dX0_isBetterPost_84 hM hS (by first | rfl | exact bI_n) (Nat.le_of_ble_eq_true rfl) (Nat.le_of_ble_eq_true rfl) (by simp only [bI, betF, or_false, false_or, or_true, eq_true c_44, eq_true c_76, not_false_eq_true, not_true_eq_false, and_true, true_and, and_false, false_and, and_self, ↓reduceIte, or_true, true_or, or_self, or_false, false_or])
    · skip
      refine lv_iconst (v := 1) hx hb dX0_isBetterPost_79 (by decide) ?_
      refine lv_goto (tgt := 84) hx hb dX0_isBetterPost_80 (by decide) ?_
      exact k_zret hc hr dX0_isBetterPost_84 hM hS (by first | rfl | exact bI_n) (Nat.le_of_ble_eq_true rfl) (Nat.le_of_ble_eq_true rfl) (by simp only [bI, betF, or_false, false_or, or_true, eq_true c_44, eq_false c_76, not_false_eq_true, not_true_eq_false, and_true, true_and, and_false, false_and, and_self, ↓reduceIte, or_true, true_or, or_self, or_false, false_or])
  · skip
    refine lv_iload hx hb dX0_isBetterPost_47 (lv_at hl 1 rfl) ?_
    refine lv_iload hx hb dX0_isBetterPost_49 (lv_at hl 0 rfl) ?_
    refine lv_icmp_ge (tgt := 58) hx hb dX0_isBetterPost_51 (by decide) (fun c_51 => ?_) (fun c_51 => ?_)
    · skip
      refine lv_iconst (v := 0) hx hb dX0_isBetterPost_58 (by decide) ?_
      exact k_zret hc hr dX0_isBetterPost_59 hM hS (by first | rfl | exact bI_n) (Nat.le_of_ble_eq_true rfl) (Nat.le_of_ble_eq_true rfl) (by simp only [bI, betF, or_false, false_or, or_true, eq_false c_44, eq_true c_51, not_false_eq_true, not_true_eq_false, and_true, true_and, and_false, false_and, and_self, ↓reduceIte, or_true, true_or, or_self, or_false, false_or])
    · skip
      refine lv_iconst (v := 1) hx hb dX0_isBetterPost_54 (by decide) ?_
      refine lv_goto (tgt := 59) hx hb dX0_isBetterPost_55 (by decide) ?_
      exact k_zret hc hr dX0_isBetterPost_59 hM hS (by first | rfl | exact bI_n) (Nat.le_of_ble_eq_true rfl) (Nat.le_of_ble_eq_true rfl) (by simp only [bI, betF, or_false, false_or, or_true, eq_false c_44, eq_false c_51, not_false_eq_true, not_true_eq_false, and_true, true_and, and_false, false_and, and_self, ↓reduceIte, or_true, true_or, or_self, or_false, false_or])
set_option maxHeartbeats 4000000 in
set_option maxRecDepth 100000 in
theorem c_X0_clearestPost (l : Launch) (hlf : l.stackTraces = false) (g : GC) (M : HM) (a : Nat) (fl : FL) (i : Int32) (hW : FlatAt g M a fl) : KM g l yX0_clearestPost cX0_clearestPost 4 (some .int) 6 0 0 [.ref a, .int i] M (.inl (some (.int (bestF fl i)), M)) := by
  refine k_meth hlf (by decide) (Nat.le_of_ble_eq_true rfl) fun p e s m below meth c ls hc hr hnx hM hS hl => ?_
  have hc : Cx g p l s m [.ref a, .int i].toArray meth c cX0_clearestPost 4 RX0 := hc
  have hx := hc.1
  have hb := hc.2.1
  have hl : lv_has ls 4 [(0, .ref a), (1, .int i)] := hl
  refine lv_iconst (v := (-1)) hx hb dX0_clearestPost_0 (by decide) ?_
  refine lv_istore_n (lv' := [(2, .int (-1)), (0, .ref a), (1, .int i)]) hx hb dX0_clearestPost_1 rfl hl (by decide) rfl (fun ls hl => ?_)
  refine lv_iconst (v := 0) hx hb dX0_clearestPost_2 (by decide) ?_
  refine lv_istore_n (lv' := [(3, .int 0), (2, .int (-1)), (0, .ref a), (1, .int i)]) hx hb dX0_clearestPost_3 rfl hl (by decide) rfl (fun ls hl => ?_)
  have lp_4 : ∀ (D k : Nat), ((fl 8 1).toNatClampNeg) - k < D → k ≤ (fl 8 1).toNatClampNeg → ∀ (ls : Array Slot) (H : Heap) (locs : List Loc), hR g M H → va_S (gA g) s.heap H locs → lv_has ls 4 [(3, .int (nI k)), (2, .int (itr (bpS fl i) (-1) k)), (0, .ref a), (1, .int i)] → W p l e (rmOf 6 0 0) s m [.ref a, .int i].toArray below meth c H locs 0 0 (vx_MQ below (KQ g (.inl (some (.int (bestF fl i)), M))) (KX g (.inl (some (.int (bestF fl i)), M))) [.ref a, .int i].toArray s 0 0 (gA g)) (F0 m 4 ls []) := by
    intro D
    induction D with
    | zero => intro k hD; exact absurd hD (Nat.not_lt_zero _)
    | succ D ih_4 =>
      intro k hD hk ls H locs hM hS hl
      refine lv_iload_n hx hb dX0_clearestPost_4 rfl (lv_at hl 0 rfl) ?_
      refine lv_aload_n hx hb dX0_clearestPost_5 rfl (lv_at hl 2 rfl) ?_
      refine gt_X0_20 hc dX0_clearestPost_6 hM hW.o rfl ?_
      refine k_V1 hc [] cw_X0_104 rfl dX0_clearestPost_9 (c_X3_size l hlf g _ (a + 3) 4 (fl 8 1) (fl 1) (hW.row (k := 1) (r := a + 3) (by decide) rfl rfl)) (hW.row (k := 1) (r := a + 3) (by decide) rfl rfl).1 hM hS hl.1 rfl rfl ⟨Nat.le_of_ble_eq_true rfl, Nat.le_of_ble_eq_true rfl⟩ ⟨Nat.le_of_ble_eq_true rfl, Nat.le_of_ble_eq_true rfl⟩ (Nat.le_of_ble_eq_true rfl) (fun H locs hM hS => ?_)
      refine lv_icmp_ge (tgt := 54) hx hb dX0_clearestPost_12 (by decide) (fun c_12 => ?_) (fun c_12 => ?_)
      · skip
        have c_12 := (k_le (by have := k_clamp_lt (fl 8 1); omega)).mp c_12
        refine lv_iload_n hx hb dX0_clearestPost_54 rfl (lv_at hl 1 rfl) ?_
        exact k_iret hc hr dX0_clearestPost_55 hM hS (Nat.le_of_ble_eq_true rfl) (Nat.le_of_ble_eq_true rfl) (by rw [bestF, show k = (fl 8 1).toNatClampNeg by omega])
      · skip
        have c_12 : ¬ (fl 8 1).toNatClampNeg ≤ k := fun h => c_12 ((k_le (by have := k_clamp_lt (fl 8 1); omega)).mpr h)
        refine lv_aload_n hx hb dX0_clearestPost_15 rfl (lv_at hl 2 rfl) ?_
        refine lv_iload_n hx hb dX0_clearestPost_16 rfl (lv_at hl 3 rfl) ?_
        refine lv_iload_n hx hb dX0_clearestPost_17 rfl (lv_at hl 0 rfl) ?_
        refine lv_aload_n hx hb dX0_clearestPost_18 rfl (lv_at hl 2 rfl) ?_
        refine k_V1 hc [] cw_X0_68 rfl dX0_clearestPost_19 (c_X0_heatNow l hlf g _ a fl hW) hW.o hM hS hl.1 rfl rfl ⟨Nat.le_of_ble_eq_true rfl, Nat.le_of_ble_eq_true rfl⟩ ⟨Nat.le_of_ble_eq_true rfl, Nat.le_of_ble_eq_true rfl⟩ (Nat.le_of_ble_eq_true rfl) (fun H locs hM hS => ?_)
        refine k_V1 hc [.int i, .int (nI k), .int (hNow fl)] cw_X0_107 rfl dX0_clearestPost_22 (c_X0_isShimmering l hlf g _ a fl i (nI k) (hNow fl) hW) hW.o hM hS hl.1 rfl rfl ⟨Nat.le_of_ble_eq_true rfl, Nat.le_of_ble_eq_true rfl⟩ ⟨Nat.le_of_ble_eq_true rfl, Nat.le_of_ble_eq_true rfl⟩ (Nat.le_of_ble_eq_true rfl) (fun H locs hM hS => ?_)
        refine lv_if_eq (tgt := 31) hx hb dX0_clearestPost_25 (by decide) (fun c_25 => ?_) (fun c_25 => ?_)
        · skip
          have c_25 := bI_eq.mp c_25
          refine lv_iload_n hx hb dX0_clearestPost_31 rfl (lv_at hl 1 rfl) ?_
          refine lv_iconst (v := (-1)) hx hb dX0_clearestPost_32 (by decide) ?_
          refine lv_icmp_eq (tgt := 46) hx hb dX0_clearestPost_33 (by decide) (fun c_33 => ?_) (fun c_33 => ?_)
          · skip
            refine lv_iload_n hx hb dX0_clearestPost_46 rfl (lv_at hl 0 rfl) ?_
            refine lv_istore_n (lv' := [(2, .int (nI k)), (3, .int (nI k)), (0, .ref a), (1, .int i)]) hx hb dX0_clearestPost_47 rfl hl (by decide) rfl (fun ls hl => ?_)
            refine lv_iinc (v := (nI (k + 1))) (lv' := [(3, .int (nI (k + 1))), (2, .int (nI k)), (0, .ref a), (1, .int i)]) hx hb dX0_clearestPost_48 hl (k := 1) rfl (k_inc1 _) (by decide) rfl (fun ls hl => ?_)
            refine lv_goto (tgt := 4) hx hb dX0_clearestPost_51 (by decide) ?_
            have z_2 : (nI k) = (itr (bpS fl i) (-1) (k + 1)) := (by rw [itr_s]; simp only [bpS, eq_false c_12, eq_false c_25, eq_true c_33, not_false_eq_true, not_true_eq_false, and_true, true_and, and_false, false_and, and_self, ↓reduceIte, or_true, true_or, or_self, or_false, false_or, or_true, true_or, or_self])
            have hl := lv_chg (lv_sub hl [1, 0, 2, 3] rfl) z_2
            exact ih_4 (k + 1) (by omega) (by omega) ls _ _ hM hS (lv_sub hl [1, 0, 2, 3] rfl)
          · skip
            refine lv_aload_n hx hb dX0_clearestPost_36 rfl (lv_at hl 2 rfl) ?_
            refine lv_iload_n hx hb dX0_clearestPost_37 rfl (lv_at hl 3 rfl) ?_
            refine lv_iload_n hx hb dX0_clearestPost_38 rfl (lv_at hl 0 rfl) ?_
            refine lv_iload_n hx hb dX0_clearestPost_39 rfl (lv_at hl 1 rfl) ?_
            refine k_V1 hc [.int i, .int (nI k), .int (itr (bpS fl i) (-1) k)] cw_X0_110 rfl dX0_clearestPost_40 (c_X0_isBetterPost l hlf g _ a fl i (nI k) (itr (bpS fl i) (-1) k) hW) hW.o hM hS hl.1 rfl rfl ⟨Nat.le_of_ble_eq_true rfl, Nat.le_of_ble_eq_true rfl⟩ ⟨Nat.le_of_ble_eq_true rfl, Nat.le_of_ble_eq_true rfl⟩ (Nat.le_of_ble_eq_true rfl) (fun H locs hM hS => ?_)
            refine lv_if_eq (tgt := 48) hx hb dX0_clearestPost_43 (by decide) (fun c_43 => ?_) (fun c_43 => ?_)
            · skip
              have c_43 := bI_eq.mp c_43
              refine lv_iinc (v := (nI (k + 1))) (lv' := [(3, .int (nI (k + 1))), (2, .int (itr (bpS fl i) (-1) k)), (0, .ref a), (1, .int i)]) hx hb dX0_clearestPost_48 hl (k := 0) rfl (k_inc1 _) (by decide) rfl (fun ls hl => ?_)
              refine lv_goto (tgt := 4) hx hb dX0_clearestPost_51 (by decide) ?_
              have z_2 : (itr (bpS fl i) (-1) k) = (itr (bpS fl i) (-1) (k + 1)) := (by rw [itr_s]; simp only [bpS, eq_false c_12, eq_false c_25, eq_false c_33, eq_false c_43, not_false_eq_true, not_true_eq_false, and_true, true_and, and_false, false_and, and_self, ↓reduceIte, or_true, true_or, or_self, or_false, false_or, or_true, true_or, or_self])
              have hl := lv_chg (lv_sub hl [1, 0, 2, 3] rfl) z_2
              exact ih_4 (k + 1) (by omega) (by omega) ls _ _ hM hS (lv_sub hl [1, 0, 2, 3] rfl)
            · skip
              have c_43 := bI_ne.mp c_43
              refine lv_iload_n hx hb dX0_clearestPost_46 rfl (lv_at hl 0 rfl) ?_
              refine lv_istore_n (lv' := [(2, .int (nI k)), (3, .int (nI k)), (0, .ref a), (1, .int i)]) hx hb dX0_clearestPost_47 rfl hl (by decide) rfl (fun ls hl => ?_)
              refine lv_iinc (v := (nI (k + 1))) (lv' := [(3, .int (nI (k + 1))), (2, .int (nI k)), (0, .ref a), (1, .int i)]) hx hb dX0_clearestPost_48 hl (k := 1) rfl (k_inc1 _) (by decide) rfl (fun ls hl => ?_)
              refine lv_goto (tgt := 4) hx hb dX0_clearestPost_51 (by decide) ?_
              have z_2 : (nI k) = (itr (bpS fl i) (-1) (k + 1)) := (by rw [itr_s]; simp only [bpS, eq_false c_12, eq_false c_25, eq_false c_33, eq_true c_43, not_false_eq_true, not_true_eq_false, and_true, true_and, and_false, false_and, and_self, ↓reduceIte, or_true, true_or, or_self, or_false, false_or, or_true, true_or, or_self])
              have hl := lv_chg (lv_sub hl [1, 0, 2, 3] rfl) z_2
              exact ih_4 (k + 1) (by omega) (by omega) ls _ _ hM hS (lv_sub hl [1, 0, 2, 3] rfl)
        · skip
          have c_25 := bI_ne.mp c_25
          refine lv_goto (tgt := 48) hx hb dX0_clearestPost_28 (by decide) ?_
          refine lv_iinc (v := (nI (k + 1))) (lv' := [(3, .int (nI (k + 1))), (2, .int (itr (bpS fl i) (-1) k)), (0, .ref a), (1, .int i)]) hx hb dX0_clearestPost_48 hl (k := 0) rfl (k_inc1 _) (by decide) rfl (fun ls hl => ?_)
          refine lv_goto (tgt := 4) hx hb dX0_clearestPost_51 (by decide) ?_
          have z_2 : (itr (bpS fl i) (-1) k) = (itr (bpS fl i) (-1) (k + 1)) := (by rw [itr_s]; simp only [bpS, eq_false c_12, eq_true c_25, not_false_eq_true, not_true_eq_false, and_true, true_and, and_false, false_and, and_self, ↓reduceIte, or_true, true_or, or_self, or_false, false_or, or_true, true_or, or_self])
          have hl := lv_chg (lv_sub hl [1, 0, 2, 3] rfl) z_2
          exact ih_4 (k + 1) (by omega) (by omega) ls _ _ hM hS (lv_sub hl [1, 0, 2, 3] rfl)
  have z_3 : 0 = (nI 0) := rfl
  have hl := lv_chg (lv_sub hl [0, 1, 2, 3] rfl) z_3
  have z_2 : (-1) = (itr (bpS fl i) (-1) 0) := rfl
  have hl := lv_chg (lv_sub hl [1, 0, 2, 3] rfl) z_2
  exact lp_4 ((fl 8 1).toNatClampNeg + 1) 0 (by omega) (by omega) ls _ _ hM hS (lv_sub hl [1, 0, 2, 3] rfl)
set_option maxHeartbeats 4000000 in
set_option maxRecDepth 100000 in
theorem c_X0_hoursUntilClear (l : Launch) (hlf : l.stackTraces = false) (g : GC) (M : HM) (a : Nat) (fl : FL) (i : Int32) (j : Int32) (hW : FlatAt g M a fl) : KM g l yX0_hoursUntilClear cX0_hoursUntilClear 4 (some .int) 4 0 0 [.ref a, .int i, .int j] M (.inl (some (.int (clearF fl i j)), M)) := by
  refine k_meth hlf (by decide) (Nat.le_of_ble_eq_true rfl) fun p e s m below meth c ls hc hr hnx hM hS hl => ?_
  have hc : Cx g p l s m [.ref a, .int i, .int j].toArray meth c cX0_hoursUntilClear 4 RX0 := hc
  have hx := hc.1
  have hb := hc.2.1
  have hl : lv_has ls 4 [(0, .ref a), (1, .int i), (2, .int j)] := hl
  refine lv_iconst (v := 0) hx hb dX0_hoursUntilClear_0 (by decide) ?_
  refine lv_istore_n (lv' := [(3, .int 0), (0, .ref a), (1, .int i), (2, .int j)]) hx hb dX0_hoursUntilClear_1 rfl hl (by decide) rfl (fun ls hl => ?_)
  have lp_2 : ∀ (D k : Nat), 24 - k < D → k ≤ 24 → (clearF fl i j = fnd (fun z => decide (¬ shimF fl i j (heatI (fl 9 2) (fl 9 1 + nI z)))) (24 - k) k) → ∀ (ls : Array Slot) (H : Heap) (locs : List Loc), hR g M H → va_S (gA g) s.heap H locs → lv_has ls 4 [(3, .int (nI k)), (0, .ref a), (1, .int i), (2, .int j)] → W p l e (rmOf 4 0 0) s m [.ref a, .int i, .int j].toArray below meth c H locs 0 0 (vx_MQ below (KQ g (.inl (some (.int (clearF fl i j)), M))) (KX g (.inl (some (.int (clearF fl i j)), M))) [.ref a, .int i, .int j].toArray s 0 0 (gA g)) (F0 m 2 ls []) := by
    intro D
    induction D with
    | zero => intro k hD; exact absurd hD (Nat.not_lt_zero _)
    | succ D ih_2 =>
      intro k hD hk hq ls H locs hM hS hl
      refine lv_iload_n hx hb dX0_hoursUntilClear_2 rfl (lv_at hl 0 rfl) ?_
      refine lv_bipush (v := 24) hx hb dX0_hoursUntilClear_3 (by decide) ?_
      refine lv_icmp_ge (tgt := 35) hx hb dX0_hoursUntilClear_5 (by decide) (fun c_5 => ?_) (fun c_5 => ?_)
      · skip
        have c_5 := (k_leL (b := 24) rfl (by decide) (by omega)).mp c_5
        refine lv_iconst (v := (-1)) hx hb dX0_hoursUntilClear_35 (by decide) ?_
        exact k_iret hc hr dX0_hoursUntilClear_36 hM hS (Nat.le_of_ble_eq_true rfl) (Nat.le_of_ble_eq_true rfl) (by rw [hq, fnd_stop c_5])
      · skip
        have c_5 : ¬ 24 ≤ k := fun h => c_5 ((k_leL (b := 24) rfl (by decide) (by omega)).mpr h)
        refine lv_aload_n hx hb dX0_hoursUntilClear_8 rfl (lv_at hl 1 rfl) ?_
        refine lv_iload_n hx hb dX0_hoursUntilClear_9 rfl (lv_at hl 2 rfl) ?_
        refine lv_iload_n hx hb dX0_hoursUntilClear_10 rfl (lv_at hl 3 rfl) ?_
        refine lv_aload_n hx hb dX0_hoursUntilClear_11 rfl (lv_at hl 1 rfl) ?_
        refine lv_aload_n hx hb dX0_hoursUntilClear_12 rfl (lv_at hl 1 rfl) ?_
        refine gt_X0_45 hc dX0_hoursUntilClear_13 hM hW.o rfl ?_
        refine lv_iload_n hx hb dX0_hoursUntilClear_16 rfl (lv_at hl 0 rfl) ?_
        refine lv_iadd hx hb dX0_hoursUntilClear_17 ?_
        refine k_V1 hc [.int ((fl 9 1) + (nI k))] cw_X0_65 rfl dX0_hoursUntilClear_18 (c_X0_heatAt l hlf g _ a fl ((fl 9 1) + (nI k)) hW) hW.o hM hS hl.1 rfl rfl ⟨Nat.le_of_ble_eq_true rfl, Nat.le_of_ble_eq_true rfl⟩ ⟨Nat.le_of_ble_eq_true rfl, Nat.le_of_ble_eq_true rfl⟩ (Nat.le_of_ble_eq_true rfl) (fun H locs hM hS => ?_)
        refine k_V1 hc [.int i, .int j, .int (heatI (fl 9 2) ((fl 9 1) + (nI k)))] cw_X0_107 rfl dX0_hoursUntilClear_21 (c_X0_isShimmering l hlf g _ a fl i j (heatI (fl 9 2) ((fl 9 1) + (nI k))) hW) hW.o hM hS hl.1 rfl rfl ⟨Nat.le_of_ble_eq_true rfl, Nat.le_of_ble_eq_true rfl⟩ ⟨Nat.le_of_ble_eq_true rfl, Nat.le_of_ble_eq_true rfl⟩ (Nat.le_of_ble_eq_true rfl) (fun H locs hM hS => ?_)
        refine lv_if_ne (tgt := 29) hx hb dX0_hoursUntilClear_24 (by decide) (fun c_24 => ?_) (fun c_24 => ?_)
        · skip
          have c_24 := bI_ne.mp c_24
          refine lv_iinc (v := (nI (k + 1))) (lv' := [(3, .int (nI (k + 1))), (0, .ref a), (1, .int i), (2, .int j)]) hx hb dX0_hoursUntilClear_29 hl (k := 0) rfl (k_inc1 _) (by decide) rfl (fun ls hl => ?_)
          refine lv_goto (tgt := 2) hx hb dX0_hoursUntilClear_32 (by decide) ?_
          exact ih_2 (k + 1) (by omega) (by omega) (hq.trans (fnd_next (by omega) (by simp only [decide_eq_true_eq]; exact fun hh => hh c_24))) ls _ _ hM hS (lv_sub hl [0, 1, 2, 3] rfl)
        · skip
          have c_24 := bI_eq.mp c_24
          refine lv_iload_n hx hb dX0_hoursUntilClear_27 rfl (lv_at hl 0 rfl) ?_
          exact k_iret hc hr dX0_hoursUntilClear_28 hM hS (Nat.le_of_ble_eq_true rfl) (Nat.le_of_ble_eq_true rfl) (by rw [hq, fnd_hit (by omega) (by simp only [decide_eq_true_eq]; exact c_24)])
  have z_3 : 0 = (nI 0) := rfl
  have hl := lv_chg (lv_sub hl [0, 1, 2, 3] rfl) z_3
  exact lp_2 (24 + 1) 0 (by omega) (by omega) rfl ls _ _ hM hS (lv_sub hl [0, 1, 2, 3] rfl)
set_option maxHeartbeats 4000000 in
set_option maxRecDepth 100000 in
theorem c_X0_hasSheet (l : Launch) (hlf : l.stackTraces = false) (g : GC) (M : HM) (a : Nat) (fl : FL) (i : Int32) (hW : FlatAt g M a fl) : KM g l yX0_hasSheet cX0_hasSheet 2 (some .boolean) 1 0 0 [.ref a, .int i] M (.inl (some (.int (bI (hasSh fl i))), M)) := by
  refine k_meth hlf (by decide) (Nat.le_of_ble_eq_true rfl) fun p e s m below meth c ls hc hr hnx hM hS hl => ?_
  have hc : Cx g p l s m [.ref a, .int i].toArray meth c cX0_hasSheet 2 RX0 := hc
  have hx := hc.1
  have hb := hc.2.1
  have hl : lv_has ls 2 [(0, .ref a), (1, .int i)] := hl
  refine lv_iload_n hx hb dX0_hasSheet_0 rfl (lv_at hl 1 rfl) ?_
  refine lv_if_lt (tgt := 16) hx hb dX0_hasSheet_1 (by decide) (fun c_1 => ?_) (fun c_1 => ?_)
  · skip
    refine lv_iconst (v := 0) hx hb dX0_hasSheet_16 (by decide) ?_
    exact k_zret hc hr dX0_hasSheet_17 hM hS (by first | rfl | exact bI_n) (Nat.le_of_ble_eq_true rfl) (Nat.le_of_ble_eq_true rfl) (by simp only [bI, hasSh, eq_true c_1, not_false_eq_true, not_true_eq_false, and_true, true_and, and_false, false_and, and_self, ↓reduceIte, or_true, true_or, or_self, or_false, false_or])
  · skip
    refine lv_iload_n hx hb dX0_hasSheet_4 rfl (lv_at hl 1 rfl) ?_
    refine lv_aload_n hx hb dX0_hasSheet_5 rfl (lv_at hl 0 rfl) ?_
    refine gt_X0_41 hc dX0_hasSheet_6 hM hW.o rfl ?_
    refine lv_icmp_ge (tgt := 16) hx hb dX0_hasSheet_9 (by decide) (fun c_9 => ?_) (fun c_9 => ?_)
    · skip
      refine lv_iconst (v := 0) hx hb dX0_hasSheet_16 (by decide) ?_
      exact k_zret hc hr dX0_hasSheet_17 hM hS (by first | rfl | exact bI_n) (Nat.le_of_ble_eq_true rfl) (Nat.le_of_ble_eq_true rfl) (by simp only [bI, hasSh, eq_false c_1, eq_true c_9, not_false_eq_true, not_true_eq_false, and_true, true_and, and_false, false_and, and_self, ↓reduceIte, or_true, true_or, or_self, or_false, false_or])
    · skip
      refine lv_iconst (v := 1) hx hb dX0_hasSheet_12 (by decide) ?_
      refine lv_goto (tgt := 17) hx hb dX0_hasSheet_13 (by decide) ?_
      exact k_zret hc hr dX0_hasSheet_17 hM hS (by first | rfl | exact bI_n) (Nat.le_of_ble_eq_true rfl) (Nat.le_of_ble_eq_true rfl) (by simp only [bI, hasSh, eq_false c_1, eq_false c_9, not_false_eq_true, not_true_eq_false, and_true, true_and, and_false, false_and, and_self, ↓reduceIte, or_true, true_or, or_self, or_false, false_or])
set_option maxHeartbeats 4000000 in
set_option maxRecDepth 100000 in
theorem c_X0_drawnPlace (l : Launch) (hlf : l.stackTraces = false) (g : GC) (M : HM) (a : Nat) (fl : FL) (i : Int32) (j : Int32) (hW : FlatAt g M a fl) : KM g l yX0_drawnPlace cX0_drawnPlace 3 (some .int) 2 0 0 [.ref a, .int i, .int j] M (.inl (some (.int (drawnF fl i j)), M)) := by
  refine k_meth hlf (by decide) (Nat.le_of_ble_eq_true rfl) fun p e s m below meth c ls hc hr hnx hM hS hl => ?_
  have hc : Cx g p l s m [.ref a, .int i, .int j].toArray meth c cX0_drawnPlace 3 RX0 := hc
  have hx := hc.1
  have hb := hc.2.1
  have hl : lv_has ls 3 [(0, .ref a), (1, .int i), (2, .int j)] := hl
  refine lv_aload_n hx hb dX0_drawnPlace_0 rfl (lv_at hl 0 rfl) ?_
  refine gt_X0_26 hc dX0_drawnPlace_1 hM hW.o rfl ?_
  refine lv_iload_n hx hb dX0_drawnPlace_4 rfl (lv_at hl 2 rfl) ?_
  refine lv_bipush (v := 10) hx hb dX0_drawnPlace_5 (by decide) ?_
  refine lv_imul hx hb dX0_drawnPlace_7 ?_
  refine lv_iload_n hx hb dX0_drawnPlace_8 rfl (lv_at hl 1 rfl) ?_
  refine lv_iadd hx hb dX0_drawnPlace_9 ?_
  refine k_V1 hc [.int ((j * 10) + i)] cw_X0_72 rfl dX0_drawnPlace_10 (c_X3_get l hlf g _ (a + 7) 30 (fl 8 3) (fl 3) ((j * 10) + i) (hW.row (k := 3) (r := a + 7) (by decide) rfl rfl) (by decide)) (hW.row (k := 3) (r := a + 7) (by decide) rfl rfl).1 hM hS hl.1 rfl rfl ⟨Nat.le_of_ble_eq_true rfl, Nat.le_of_ble_eq_true rfl⟩ ⟨Nat.le_of_ble_eq_true rfl, Nat.le_of_ble_eq_true rfl⟩ (Nat.le_of_ble_eq_true rfl) (fun H locs hM hS => ?_)
  exact k_iret hc hr dX0_drawnPlace_13 hM hS (Nat.le_of_ble_eq_true rfl) (Nat.le_of_ble_eq_true rfl) (by rfl)
set_option maxHeartbeats 4000000 in
set_option maxRecDepth 100000 in
theorem c_X0_draw (l : Launch) (hlf : l.stackTraces = false) (g : GC) (M : HM) (a : Nat) (fl : FL) (i : Int32) (j : Int32) (v : Int32) (hW : FlatAt g M a fl) : KM g l yX0_draw cX0_draw 4 none 2 0 0 [.ref a, .int i, .int j, .int v] M (.inl (none, (putF g M a (up1 fl 3 (rset 30 (fl 8 3) (fl 3) (j * 10 + i) v))))) := by
  refine k_meth hlf (by decide) (Nat.le_of_ble_eq_true rfl) fun p e s m below meth c ls hc hr hnx hM hS hl => ?_
  have hc : Cx g p l s m [.ref a, .int i, .int j, .int v].toArray meth c cX0_draw 4 RX0 := hc
  have hx := hc.1
  have hb := hc.2.1
  have hl : lv_has ls 4 [(0, .ref a), (1, .int i), (2, .int j), (3, .int v)] := hl
  refine lv_aload_n hx hb dX0_draw_0 rfl (lv_at hl 0 rfl) ?_
  refine gt_X0_26 hc dX0_draw_1 hM hW.o rfl ?_
  refine lv_iload_n hx hb dX0_draw_4 rfl (lv_at hl 2 rfl) ?_
  refine lv_bipush (v := 10) hx hb dX0_draw_5 (by decide) ?_
  refine lv_imul hx hb dX0_draw_7 ?_
  refine lv_iload_n hx hb dX0_draw_8 rfl (lv_at hl 1 rfl) ?_
  refine lv_iadd hx hb dX0_draw_9 ?_
  refine lv_iload_n hx hb dX0_draw_10 rfl (lv_at hl 3 rfl) ?_
  refine k_V0 hc [.int ((j * 10) + i), .int v] cw_X0_116 rfl dX0_draw_11 (c_X3_set l hlf g _ (a + 7) 30 (fl 8 3) (fl 3) ((j * 10) + i) v (hW.row (k := 3) (r := a + 7) (by decide) rfl rfl) (by decide)) (hW.row (k := 3) (r := a + 7) (by decide) rfl rfl).1 hM hS hl.1 rfl rfl ⟨Nat.le_of_ble_eq_true rfl, Nat.le_of_ble_eq_true rfl⟩ ⟨Nat.le_of_ble_eq_true rfl, Nat.le_of_ble_eq_true rfl⟩ (Nat.le_of_ble_eq_true rfl) (fun H locs hM hS => ?_)
  have hM := hR.eq hM (putF_rowf hW (k := 3) (by decide) rfl rfl)
  have hW := FlatAt.put (g := g) (M := M) (a := a) (fl := (up1 fl 3 (rset 30 (fl 8 3) (fl 3) ((j * 10) + i) v)))
  exact k_vret hc hr dX0_draw_14 hM hS (Nat.le_of_ble_eq_true rfl) (Nat.le_of_ble_eq_true rfl) (by rfl)
set_option maxHeartbeats 4000000 in
set_option maxRecDepth 100000 in
theorem c_X0_countDrawn (l : Launch) (hlf : l.stackTraces = false) (g : GC) (M : HM) (a : Nat) (fl : FL) (o : Int32) (hW : FlatAt g M a fl) : KM g l yX0_countDrawn cX0_countDrawn 6 (some .int) 2 0 0 [.ref a, .int o] M (.inl (some (.int (cdF fl o)), M)) := by
  refine k_meth hlf (by decide) (Nat.le_of_ble_eq_true rfl) fun p e s m below meth c ls hc hr hnx hM hS hl => ?_
  have hc : Cx g p l s m [.ref a, .int o].toArray meth c cX0_countDrawn 6 RX0 := hc
  have hx := hc.1
  have hb := hc.2.1
  have hl : lv_has ls 6 [(0, .ref a), (1, .int o)] := hl
  refine lv_iconst (v := 0) hx hb dX0_countDrawn_0 (by decide) ?_
  refine lv_istore_n (lv' := [(2, .int 0), (0, .ref a), (1, .int o)]) hx hb dX0_countDrawn_1 rfl hl (by decide) rfl (fun ls hl => ?_)
  refine lv_iconst (v := 0) hx hb dX0_countDrawn_2 (by decide) ?_
  refine lv_istore_n (lv' := [(3, .int 0), (2, .int 0), (0, .ref a), (1, .int o)]) hx hb dX0_countDrawn_3 rfl hl (by decide) rfl (fun ls hl => ?_)
  have lp_4 : ∀ (D k : Nat), ((fl 8 3).toNatClampNeg) - k < D → k ≤ (fl 8 3).toNatClampNeg → ∀ (ls : Array Slot) (H : Heap) (locs : List Loc), hR g M H → va_S (gA g) s.heap H locs → lv_has ls 6 [(3, .int (nI k)), (2, .int (itr (cdS fl o) 0 k)), (0, .ref a), (1, .int o)] → W p l e (rmOf 2 0 0) s m [.ref a, .int o].toArray below meth c H locs 0 0 (vx_MQ below (KQ g (.inl (some (.int (cdF fl o)), M))) (KX g (.inl (some (.int (cdF fl o)), M))) [.ref a, .int o].toArray s 0 0 (gA g)) (F0 m 4 ls []) := by
    intro D
    induction D with
    | zero => intro k hD; exact absurd hD (Nat.not_lt_zero _)
    | succ D ih_4 =>
      intro k hD hk ls H locs hM hS hl
      refine lv_iload_n hx hb dX0_countDrawn_4 rfl (lv_at hl 0 rfl) ?_
      refine lv_aload_n hx hb dX0_countDrawn_5 rfl (lv_at hl 2 rfl) ?_
      refine gt_X0_26 hc dX0_countDrawn_6 hM hW.o rfl ?_
      refine k_V1 hc [] cw_X0_104 rfl dX0_countDrawn_9 (c_X3_size l hlf g _ (a + 7) 30 (fl 8 3) (fl 3) (hW.row (k := 3) (r := a + 7) (by decide) rfl rfl)) (hW.row (k := 3) (r := a + 7) (by decide) rfl rfl).1 hM hS hl.1 rfl rfl ⟨Nat.le_of_ble_eq_true rfl, Nat.le_of_ble_eq_true rfl⟩ ⟨Nat.le_of_ble_eq_true rfl, Nat.le_of_ble_eq_true rfl⟩ (Nat.le_of_ble_eq_true rfl) (fun H locs hM hS => ?_)
      refine lv_icmp_ge (tgt := 72) hx hb dX0_countDrawn_12 (by decide) (fun c_12 => ?_) (fun c_12 => ?_)
      · skip
        have c_12 := (k_le (by have := k_clamp_lt (fl 8 3); omega)).mp c_12
        refine lv_iload_n hx hb dX0_countDrawn_72 rfl (lv_at hl 1 rfl) ?_
        exact k_iret hc hr dX0_countDrawn_73 hM hS (Nat.le_of_ble_eq_true rfl) (Nat.le_of_ble_eq_true rfl) (by rw [cdF, show k = (fl 8 3).toNatClampNeg by omega])
      · skip
        have c_12 : ¬ (fl 8 3).toNatClampNeg ≤ k := fun h => c_12 ((k_le (by have := k_clamp_lt (fl 8 3); omega)).mpr h)
        refine lv_aload_n hx hb dX0_countDrawn_15 rfl (lv_at hl 2 rfl) ?_
        refine gt_X0_26 hc dX0_countDrawn_16 hM hW.o rfl ?_
        refine lv_iload_n hx hb dX0_countDrawn_19 rfl (lv_at hl 0 rfl) ?_
        refine k_V1 hc [.int (nI k)] cw_X0_72 rfl dX0_countDrawn_20 (c_X3_get l hlf g _ (a + 7) 30 (fl 8 3) (fl 3) (nI k) (hW.row (k := 3) (r := a + 7) (by decide) rfl rfl) (by decide)) (hW.row (k := 3) (r := a + 7) (by decide) rfl rfl).1 hM hS hl.1 rfl rfl ⟨Nat.le_of_ble_eq_true rfl, Nat.le_of_ble_eq_true rfl⟩ ⟨Nat.le_of_ble_eq_true rfl, Nat.le_of_ble_eq_true rfl⟩ (Nat.le_of_ble_eq_true rfl) (fun H locs hM hS => ?_)
        refine lv_istore (lv' := [(4, .int (rget 30 (fl 8 3) (fl 3) (nI k))), (3, .int (nI k)), (2, .int (itr (cdS fl o) 0 k)), (0, .ref a), (1, .int o)]) hx hb dX0_countDrawn_23 hl (by decide) rfl (fun ls hl => ?_)
        refine lv_iload hx hb dX0_countDrawn_25 (lv_at hl 0 rfl) ?_
        refine lv_aload_n hx hb dX0_countDrawn_27 rfl (lv_at hl 3 rfl) ?_
        refine gt_X0_14 hc dX0_countDrawn_28 hM hW.o rfl ?_
        refine lv_iload_n hx hb dX0_countDrawn_31 rfl (lv_at hl 1 rfl) ?_
        refine lv_bipush (v := 10) hx hb dX0_countDrawn_32 (by decide) ?_
        refine lv_irem hx hb dX0_countDrawn_34 (by decide) ?_
        refine k_V1 hc [.int ((nI k) - (nI k) / 10 * 10)] cw_X0_72 rfl dX0_countDrawn_35 (c_X3_get l hlf g _ (a + 1) 10 (fl 8 0) (fl 0) ((nI k) - (nI k) / 10 * 10) (hW.row (k := 0) (r := a + 1) (by decide) rfl rfl) (by decide)) (hW.row (k := 0) (r := a + 1) (by decide) rfl rfl).1 hM hS hl.1 rfl rfl ⟨Nat.le_of_ble_eq_true rfl, Nat.le_of_ble_eq_true rfl⟩ ⟨Nat.le_of_ble_eq_true rfl, Nat.le_of_ble_eq_true rfl⟩ (Nat.le_of_ble_eq_true rfl) (fun H locs hM hS => ?_)
        refine lv_icmp_ne (tgt := 45) hx hb dX0_countDrawn_38 (by decide) (fun c_38 => ?_) (fun c_38 => ?_)
        · skip
          refine lv_iconst (v := 0) hx hb dX0_countDrawn_45 (by decide) ?_
          refine lv_istore (lv' := [(5, .int 0), (4, .int (rget 30 (fl 8 3) (fl 3) (nI k))), (3, .int (nI k)), (2, .int (itr (cdS fl o) 0 k)), (0, .ref a), (1, .int o)]) hx hb dX0_countDrawn_46 hl (by decide) rfl (fun ls hl => ?_)
          refine lv_iload hx hb dX0_countDrawn_48 (lv_at hl 1 rfl) ?_
          refine lv_iconst (v := (-1)) hx hb dX0_countDrawn_50 (by decide) ?_
          refine lv_icmp_eq (tgt := 66) hx hb dX0_countDrawn_51 (by decide) (fun c_51 => ?_) (fun c_51 => ?_)
          · skip
            refine lv_iinc (v := (nI (k + 1))) (lv' := [(3, .int (nI (k + 1))), (5, .int 0), (4, .int (rget 30 (fl 8 3) (fl 3) (nI k))), (2, .int (itr (cdS fl o) 0 k)), (0, .ref a), (1, .int o)]) hx hb dX0_countDrawn_66 hl (k := 2) rfl (k_inc1 _) (by decide) rfl (fun ls hl => ?_)
            refine lv_goto (tgt := 4) hx hb dX0_countDrawn_69 (by decide) ?_
            have z_2 : (itr (cdS fl o) 0 k) = (itr (cdS fl o) 0 (k + 1)) := (by rw [itr_s]; simp only [cdS, eq_false c_12, eq_false c_38, eq_true c_51, not_false_eq_true, not_true_eq_false, and_true, true_and, and_false, false_and, and_self, ↓reduceIte, or_true, true_or, or_self, or_false, false_or, or_true, true_or, or_self, or_false, false_or])
            have hl := lv_chg (lv_sub hl [3, 0, 1, 2, 4, 5] rfl) z_2
            exact ih_4 (k + 1) (by omega) (by omega) ls _ _ hM hS (lv_sub hl [1, 0, 4, 5] rfl)
          · skip
            refine lv_iload hx hb dX0_countDrawn_54 (lv_at hl 0 rfl) ?_
            refine lv_if_ne (tgt := 63) hx hb dX0_countDrawn_56 (by decide) (fun c_56 => ?_) (fun c_56 => ?_)
            · skip
              exact absurd c_56 (by decide)
            · skip
              refine lv_iload_n hx hb dX0_countDrawn_59 rfl (lv_at hl 5 rfl) ?_
              refine lv_if_ne (tgt := 66) hx hb dX0_countDrawn_60 (by decide) (fun c_60 => ?_) (fun c_60 => ?_)
              · skip
                refine lv_iinc (v := (nI (k + 1))) (lv' := [(3, .int (nI (k + 1))), (5, .int 0), (4, .int (rget 30 (fl 8 3) (fl 3) (nI k))), (2, .int (itr (cdS fl o) 0 k)), (0, .ref a), (1, .int o)]) hx hb dX0_countDrawn_66 hl (k := 2) rfl (k_inc1 _) (by decide) rfl (fun ls hl => ?_)
                refine lv_goto (tgt := 4) hx hb dX0_countDrawn_69 (by decide) ?_
                have z_2 : (itr (cdS fl o) 0 k) = (itr (cdS fl o) 0 (k + 1)) := (by rw [itr_s]; simp only [cdS, eq_false c_12, eq_false c_38, eq_false c_51, eq_true c_56, eq_false c_60, not_false_eq_true, not_true_eq_false, and_true, true_and, and_false, false_and, and_self, ↓reduceIte, or_true, true_or, or_self, or_false, false_or, or_true, true_or, or_self, or_false, false_or])
                have hl := lv_chg (lv_sub hl [3, 0, 1, 2, 4, 5] rfl) z_2
                exact ih_4 (k + 1) (by omega) (by omega) ls _ _ hM hS (lv_sub hl [1, 0, 4, 5] rfl)
              · skip
                refine lv_iinc (v := ((itr (cdS fl o) 0 k) + 1)) (lv' := [(2, .int ((itr (cdS fl o) 0 k) + 1)), (5, .int 0), (4, .int (rget 30 (fl 8 3) (fl 3) (nI k))), (3, .int (nI k)), (0, .ref a), (1, .int o)]) hx hb dX0_countDrawn_63 hl (k := 3) rfl rfl (by decide) rfl (fun ls hl => ?_)
                refine lv_iinc (v := (nI (k + 1))) (lv' := [(3, .int (nI (k + 1))), (2, .int ((itr (cdS fl o) 0 k) + 1)), (5, .int 0), (4, .int (rget 30 (fl 8 3) (fl 3) (nI k))), (0, .ref a), (1, .int o)]) hx hb dX0_countDrawn_66 hl (k := 3) rfl (k_inc1 _) (by decide) rfl (fun ls hl => ?_)
                refine lv_goto (tgt := 4) hx hb dX0_countDrawn_69 (by decide) ?_
                have z_2 : ((itr (cdS fl o) 0 k) + 1) = (itr (cdS fl o) 0 (k + 1)) := (by rw [itr_s]; simp only [cdS, eq_false c_12, eq_false c_38, eq_false c_51, eq_true c_56, eq_true c_60, not_false_eq_true, not_true_eq_false, and_true, true_and, and_false, false_and, and_self, ↓reduceIte, or_true, true_or, or_self, or_false, false_or, or_true, true_or, or_self, or_false, false_or])
                have hl := lv_chg (lv_sub hl [1, 0, 2, 3, 4, 5] rfl) z_2
                exact ih_4 (k + 1) (by omega) (by omega) ls _ _ hM hS (lv_sub hl [1, 0, 4, 5] rfl)
        · skip
          refine lv_iconst (v := 1) hx hb dX0_countDrawn_41 (by decide) ?_
          refine lv_goto (tgt := 46) hx hb dX0_countDrawn_42 (by decide) ?_
          refine lv_istore (lv' := [(5, .int 1), (4, .int (rget 30 (fl 8 3) (fl 3) (nI k))), (3, .int (nI k)), (2, .int (itr (cdS fl o) 0 k)), (0, .ref a), (1, .int o)]) hx hb dX0_countDrawn_46 hl (by decide) rfl (fun ls hl => ?_)
          refine lv_iload hx hb dX0_countDrawn_48 (lv_at hl 1 rfl) ?_
          refine lv_iconst (v := (-1)) hx hb dX0_countDrawn_50 (by decide) ?_
          refine lv_icmp_eq (tgt := 66) hx hb dX0_countDrawn_51 (by decide) (fun c_51 => ?_) (fun c_51 => ?_)
          · skip
            refine lv_iinc (v := (nI (k + 1))) (lv' := [(3, .int (nI (k + 1))), (5, .int 1), (4, .int (rget 30 (fl 8 3) (fl 3) (nI k))), (2, .int (itr (cdS fl o) 0 k)), (0, .ref a), (1, .int o)]) hx hb dX0_countDrawn_66 hl (k := 2) rfl (k_inc1 _) (by decide) rfl (fun ls hl => ?_)
            refine lv_goto (tgt := 4) hx hb dX0_countDrawn_69 (by decide) ?_
            have z_2 : (itr (cdS fl o) 0 k) = (itr (cdS fl o) 0 (k + 1)) := (by rw [itr_s]; simp only [cdS, eq_false c_12, eq_true c_38, eq_true c_51, not_false_eq_true, not_true_eq_false, and_true, true_and, and_false, false_and, and_self, ↓reduceIte, or_true, true_or, or_self, or_false, false_or, or_true, true_or, or_self, or_false, false_or])
            have hl := lv_chg (lv_sub hl [3, 0, 1, 2, 4, 5] rfl) z_2
            exact ih_4 (k + 1) (by omega) (by omega) ls _ _ hM hS (lv_sub hl [1, 0, 4, 5] rfl)
          · skip
            refine lv_iload hx hb dX0_countDrawn_54 (lv_at hl 0 rfl) ?_
            refine lv_if_ne (tgt := 63) hx hb dX0_countDrawn_56 (by decide) (fun c_56 => ?_) (fun c_56 => ?_)
            · skip
              refine lv_iinc (v := ((itr (cdS fl o) 0 k) + 1)) (lv' := [(2, .int ((itr (cdS fl o) 0 k) + 1)), (5, .int 1), (4, .int (rget 30 (fl 8 3) (fl 3) (nI k))), (3, .int (nI k)), (0, .ref a), (1, .int o)]) hx hb dX0_countDrawn_63 hl (k := 3) rfl rfl (by decide) rfl (fun ls hl => ?_)
              refine lv_iinc (v := (nI (k + 1))) (lv' := [(3, .int (nI (k + 1))), (2, .int ((itr (cdS fl o) 0 k) + 1)), (5, .int 1), (4, .int (rget 30 (fl 8 3) (fl 3) (nI k))), (0, .ref a), (1, .int o)]) hx hb dX0_countDrawn_66 hl (k := 3) rfl (k_inc1 _) (by decide) rfl (fun ls hl => ?_)
              refine lv_goto (tgt := 4) hx hb dX0_countDrawn_69 (by decide) ?_
              have z_2 : ((itr (cdS fl o) 0 k) + 1) = (itr (cdS fl o) 0 (k + 1)) := (by rw [itr_s]; simp only [cdS, eq_false c_12, eq_true c_38, eq_false c_51, eq_false c_56, not_false_eq_true, not_true_eq_false, and_true, true_and, and_false, false_and, and_self, ↓reduceIte, or_true, true_or, or_self, or_false, false_or, or_true, true_or, or_self, or_false, false_or])
              have hl := lv_chg (lv_sub hl [1, 0, 2, 3, 4, 5] rfl) z_2
              exact ih_4 (k + 1) (by omega) (by omega) ls _ _ hM hS (lv_sub hl [1, 0, 4, 5] rfl)
            · skip
              exact absurd c_56 (by decide)
  have z_3 : 0 = (nI 0) := rfl
  have hl := lv_chg (lv_sub hl [0, 1, 2, 3] rfl) z_3
  have z_2 : 0 = (itr (cdS fl o) 0 0) := rfl
  have hl := lv_chg (lv_sub hl [1, 0, 2, 3] rfl) z_2
  exact lp_4 ((fl 8 3).toNatClampNeg + 1) 0 (by omega) (by omega) ls _ _ hM hS (lv_sub hl [1, 0, 2, 3] rfl)
set_option maxHeartbeats 4000000 in
set_option maxRecDepth 100000 in
theorem c_X0_isLost (l : Launch) (hlf : l.stackTraces = false) (g : GC) (M : HM) (a : Nat) (fl : FL) (i : Int32) (hW : FlatAt g M a fl) : KM g l yX0_isLost cX0_isLost 2 (some .boolean) 2 0 0 [.ref a, .int i] M (.inl (some (.int (bI (lostP fl i))), M)) := by
  refine k_meth hlf (by decide) (Nat.le_of_ble_eq_true rfl) fun p e s m below meth c ls hc hr hnx hM hS hl => ?_
  have hc : Cx g p l s m [.ref a, .int i].toArray meth c cX0_isLost 2 RX0 := hc
  have hx := hc.1
  have hb := hc.2.1
  have hl : lv_has ls 2 [(0, .ref a), (1, .int i)] := hl
  refine lv_aload_n hx hb dX0_isLost_0 rfl (lv_at hl 0 rfl) ?_
  refine gt_X0_32 hc dX0_isLost_1 hM hW.o rfl ?_
  refine lv_iload_n hx hb dX0_isLost_4 rfl (lv_at hl 1 rfl) ?_
  refine k_V1 hc [.int i] cw_X0_72 rfl dX0_isLost_5 (c_X3_get l hlf g _ (a + 11) 6 (fl 8 5) (fl 5) i (hW.row (k := 5) (r := a + 11) (by decide) rfl rfl) (by decide)) (hW.row (k := 5) (r := a + 11) (by decide) rfl rfl).1 hM hS hl.1 rfl rfl ⟨Nat.le_of_ble_eq_true rfl, Nat.le_of_ble_eq_true rfl⟩ ⟨Nat.le_of_ble_eq_true rfl, Nat.le_of_ble_eq_true rfl⟩ (Nat.le_of_ble_eq_true rfl) (fun H locs hM hS => ?_)
  refine lv_bipush (v := 20) hx hb dX0_isLost_8 (by decide) ?_
  refine lv_icmp_lt (tgt := 17) hx hb dX0_isLost_10 (by decide) (fun c_10 => ?_) (fun c_10 => ?_)
  · skip
    refine lv_iconst (v := 0) hx hb dX0_isLost_17 (by decide) ?_
    exact k_zret hc hr dX0_isLost_18 hM hS (by first | rfl | exact bI_n) (Nat.le_of_ble_eq_true rfl) (Nat.le_of_ble_eq_true rfl) (by simp only [bI, lostP, eq_true c_10, not_false_eq_true, not_true_eq_false, and_true, true_and, and_false, false_and, and_self, ↓reduceIte, or_true, true_or, or_self, or_false, false_or])
  · skip
    refine lv_iconst (v := 1) hx hb dX0_isLost_13 (by decide) ?_
    refine lv_goto (tgt := 18) hx hb dX0_isLost_14 (by decide) ?_
    exact k_zret hc hr dX0_isLost_18 hM hS (by first | rfl | exact bI_n) (Nat.le_of_ble_eq_true rfl) (Nat.le_of_ble_eq_true rfl) (by simp only [bI, lostP, eq_false c_10, not_false_eq_true, not_true_eq_false, and_true, true_and, and_false, false_and, and_self, ↓reduceIte, or_true, true_or, or_self, or_false, false_or])
set_option maxHeartbeats 4000000 in
set_option maxRecDepth 100000 in
theorem c_X0_isRoaming (l : Launch) (hlf : l.stackTraces = false) (g : GC) (M : HM) (a : Nat) (fl : FL) (i : Int32) (hW : FlatAt g M a fl) : KM g l yX0_isRoaming cX0_isRoaming 2 (some .boolean) 3 0 0 [.ref a, .int i] M (.inl (some (.int (bI (roamP fl i))), M)) := by
  refine k_meth hlf (by decide) (Nat.le_of_ble_eq_true rfl) fun p e s m below meth c ls hc hr hnx hM hS hl => ?_
  have hc : Cx g p l s m [.ref a, .int i].toArray meth c cX0_isRoaming 2 RX0 := hc
  have hx := hc.1
  have hb := hc.2.1
  have hl : lv_has ls 2 [(0, .ref a), (1, .int i)] := hl
  refine lv_aload_n hx hb dX0_isRoaming_0 rfl (lv_at hl 0 rfl) ?_
  refine gt_X0_35 hc dX0_isRoaming_1 hM hW.o rfl ?_
  refine lv_iload_n hx hb dX0_isRoaming_4 rfl (lv_at hl 1 rfl) ?_
  refine k_V1 hc [.int i] cw_X0_72 rfl dX0_isRoaming_5 (c_X3_get l hlf g _ (a + 13) 6 (fl 8 6) (fl 6) i (hW.row (k := 6) (r := a + 13) (by decide) rfl rfl) (by decide)) (hW.row (k := 6) (r := a + 13) (by decide) rfl rfl).1 hM hS hl.1 rfl rfl ⟨Nat.le_of_ble_eq_true rfl, Nat.le_of_ble_eq_true rfl⟩ ⟨Nat.le_of_ble_eq_true rfl, Nat.le_of_ble_eq_true rfl⟩ (Nat.le_of_ble_eq_true rfl) (fun H locs hM hS => ?_)
  refine lv_if_ne (tgt := 23) hx hb dX0_isRoaming_8 (by decide) (fun c_8 => ?_) (fun c_8 => ?_)
  · skip
    refine lv_iconst (v := 0) hx hb dX0_isRoaming_23 (by decide) ?_
    exact k_zret hc hr dX0_isRoaming_24 hM hS (by first | rfl | exact bI_n) (Nat.le_of_ble_eq_true rfl) (Nat.le_of_ble_eq_true rfl) (by simp only [bI, roamP, eq_false c_8, not_false_eq_true, not_true_eq_false, and_true, true_and, and_false, false_and, and_self, ↓reduceIte, or_true, true_or, or_self, or_false, false_or])
  · skip
    refine lv_aload_n hx hb dX0_isRoaming_11 rfl (lv_at hl 0 rfl) ?_
    refine lv_iload_n hx hb dX0_isRoaming_12 rfl (lv_at hl 1 rfl) ?_
    refine k_V1 hc [.int i] cw_X0_120 rfl dX0_isRoaming_13 (c_X0_isLost l hlf g _ a fl i hW) hW.o hM hS hl.1 rfl rfl ⟨Nat.le_of_ble_eq_true rfl, Nat.le_of_ble_eq_true rfl⟩ ⟨Nat.le_of_ble_eq_true rfl, Nat.le_of_ble_eq_true rfl⟩ (Nat.le_of_ble_eq_true rfl) (fun H locs hM hS => ?_)
    refine lv_if_ne (tgt := 23) hx hb dX0_isRoaming_16 (by decide) (fun c_16 => ?_) (fun c_16 => ?_)
    · skip
      have c_16 := bI_ne.mp c_16
      refine lv_iconst (v := 0) hx hb dX0_isRoaming_23 (by decide) ?_
      exact k_zret hc hr dX0_isRoaming_24 hM hS (by first | rfl | exact bI_n) (Nat.le_of_ble_eq_true rfl) (Nat.le_of_ble_eq_true rfl) (by simp only [bI, roamP, eq_true c_8, eq_true c_16, not_false_eq_true, not_true_eq_false, and_true, true_and, and_false, false_and, and_self, ↓reduceIte, or_true, true_or, or_self, or_false, false_or])
    · skip
      have c_16 := bI_eq.mp c_16
      refine lv_iconst (v := 1) hx hb dX0_isRoaming_19 (by decide) ?_
      refine lv_goto (tgt := 24) hx hb dX0_isRoaming_20 (by decide) ?_
      exact k_zret hc hr dX0_isRoaming_24 hM hS (by first | rfl | exact bI_n) (Nat.le_of_ble_eq_true rfl) (Nat.le_of_ble_eq_true rfl) (by simp only [bI, roamP, eq_true c_8, eq_false c_16, not_false_eq_true, not_true_eq_false, and_true, true_and, and_false, false_and, and_self, ↓reduceIte, or_true, true_or, or_self, or_false, false_or])
set_option maxHeartbeats 4000000 in
set_option maxRecDepth 100000 in
theorem c_X0_countLost (l : Launch) (hlf : l.stackTraces = false) (g : GC) (M : HM) (a : Nat) (fl : FL) (hW : FlatAt g M a fl) : KM g l yX0_countLost cX0_countLost 3 (some .int) 3 0 0 [.ref a] M (.inl (some (.int (clF fl)), M)) := by
  refine k_meth hlf (by decide) (Nat.le_of_ble_eq_true rfl) fun p e s m below meth c ls hc hr hnx hM hS hl => ?_
  have hc : Cx g p l s m [.ref a].toArray meth c cX0_countLost 3 RX0 := hc
  have hx := hc.1
  have hb := hc.2.1
  have hl : lv_has ls 3 [(0, .ref a)] := hl
  refine lv_iconst (v := 0) hx hb dX0_countLost_0 (by decide) ?_
  refine lv_istore_n (lv' := [(1, .int 0), (0, .ref a)]) hx hb dX0_countLost_1 rfl hl (by decide) rfl (fun ls hl => ?_)
  refine lv_iconst (v := 0) hx hb dX0_countLost_2 (by decide) ?_
  refine lv_istore_n (lv' := [(2, .int 0), (1, .int 0), (0, .ref a)]) hx hb dX0_countLost_3 rfl hl (by decide) rfl (fun ls hl => ?_)
  have lp_4 : ∀ (D k : Nat), ((fl 8 4).toNatClampNeg) - k < D → k ≤ (fl 8 4).toNatClampNeg → ∀ (ls : Array Slot) (H : Heap) (locs : List Loc), hR g M H → va_S (gA g) s.heap H locs → lv_has ls 3 [(2, .int (nI k)), (1, .int (itr (clS fl) 0 k)), (0, .ref a)] → W p l e (rmOf 3 0 0) s m [.ref a].toArray below meth c H locs 0 0 (vx_MQ below (KQ g (.inl (some (.int (clF fl)), M))) (KX g (.inl (some (.int (clF fl)), M))) [.ref a].toArray s 0 0 (gA g)) (F0 m 4 ls []) := by
    intro D
    induction D with
    | zero => intro k hD; exact absurd hD (Nat.not_lt_zero _)
    | succ D ih_4 =>
      intro k hD hk ls H locs hM hS hl
      refine lv_iload_n hx hb dX0_countLost_4 rfl (lv_at hl 0 rfl) ?_
      refine lv_aload_n hx hb dX0_countLost_5 rfl (lv_at hl 2 rfl) ?_
      refine gt_X0_29 hc dX0_countLost_6 hM hW.o rfl ?_
      refine k_V1 hc [] cw_X0_104 rfl dX0_countLost_9 (c_X3_size l hlf g _ (a + 9) 6 (fl 8 4) (fl 4) (hW.row (k := 4) (r := a + 9) (by decide) rfl rfl)) (hW.row (k := 4) (r := a + 9) (by decide) rfl rfl).1 hM hS hl.1 rfl rfl ⟨Nat.le_of_ble_eq_true rfl, Nat.le_of_ble_eq_true rfl⟩ ⟨Nat.le_of_ble_eq_true rfl, Nat.le_of_ble_eq_true rfl⟩ (Nat.le_of_ble_eq_true rfl) (fun H locs hM hS => ?_)
      refine lv_icmp_ge (tgt := 37) hx hb dX0_countLost_12 (by decide) (fun c_12 => ?_) (fun c_12 => ?_)
      · skip
        have c_12 := (k_le (by have := k_clamp_lt (fl 8 4); omega)).mp c_12
        refine lv_iload_n hx hb dX0_countLost_37 rfl (lv_at hl 1 rfl) ?_
        exact k_iret hc hr dX0_countLost_38 hM hS (Nat.le_of_ble_eq_true rfl) (Nat.le_of_ble_eq_true rfl) (by rw [clF, show k = (fl 8 4).toNatClampNeg by omega])
      · skip
        have c_12 : ¬ (fl 8 4).toNatClampNeg ≤ k := fun h => c_12 ((k_le (by have := k_clamp_lt (fl 8 4); omega)).mpr h)
        refine lv_iload_n hx hb dX0_countLost_15 rfl (lv_at hl 1 rfl) ?_
        refine lv_aload_n hx hb dX0_countLost_16 rfl (lv_at hl 2 rfl) ?_
        refine lv_iload_n hx hb dX0_countLost_17 rfl (lv_at hl 0 rfl) ?_
        refine k_V1 hc [.int (nI k)] cw_X0_120 rfl dX0_countLost_18 (c_X0_isLost l hlf g _ a fl (nI k) hW) hW.o hM hS hl.1 rfl rfl ⟨Nat.le_of_ble_eq_true rfl, Nat.le_of_ble_eq_true rfl⟩ ⟨Nat.le_of_ble_eq_true rfl, Nat.le_of_ble_eq_true rfl⟩ (Nat.le_of_ble_eq_true rfl) (fun H locs hM hS => ?_)
        refine lv_if_eq (tgt := 28) hx hb dX0_countLost_21 (by decide) (fun c_21 => ?_) (fun c_21 => ?_)
        · skip
          have c_21 := bI_eq.mp c_21
          refine lv_iconst (v := 0) hx hb dX0_countLost_28 (by decide) ?_
          refine lv_iadd hx hb dX0_countLost_29 ?_
          refine lv_istore_n (lv' := [(1, .int ((itr (clS fl) 0 k) + 0)), (2, .int (nI k)), (0, .ref a)]) hx hb dX0_countLost_30 rfl hl (by decide) rfl (fun ls hl => ?_)
          refine lv_iinc (v := (nI (k + 1))) (lv' := [(2, .int (nI (k + 1))), (1, .int ((itr (clS fl) 0 k) + 0)), (0, .ref a)]) hx hb dX0_countLost_31 hl (k := 1) rfl (k_inc1 _) (by decide) rfl (fun ls hl => ?_)
          refine lv_goto (tgt := 4) hx hb dX0_countLost_34 (by decide) ?_
          have z_1 : ((itr (clS fl) 0 k) + 0) = (itr (clS fl) 0 (k + 1)) := (by rw [itr_s]; simp only [clS, eq_false c_12, eq_false c_21, not_false_eq_true, not_true_eq_false, and_true, true_and, and_false, false_and, and_self, ↓reduceIte, or_true, true_or, or_self, or_false, false_or])
          have hl := lv_chg (lv_sub hl [1, 0, 2] rfl) z_1
          exact ih_4 (k + 1) (by omega) (by omega) ls _ _ hM hS (lv_sub hl [1, 0, 2] rfl)
        · skip
          have c_21 := bI_ne.mp c_21
          refine lv_iconst (v := 1) hx hb dX0_countLost_24 (by decide) ?_
          refine lv_goto (tgt := 29) hx hb dX0_countLost_25 (by decide) ?_
          refine lv_iadd hx hb dX0_countLost_29 ?_
          refine lv_istore_n (lv' := [(1, .int ((itr (clS fl) 0 k) + 1)), (2, .int (nI k)), (0, .ref a)]) hx hb dX0_countLost_30 rfl hl (by decide) rfl (fun ls hl => ?_)
          refine lv_iinc (v := (nI (k + 1))) (lv' := [(2, .int (nI (k + 1))), (1, .int ((itr (clS fl) 0 k) + 1)), (0, .ref a)]) hx hb dX0_countLost_31 hl (k := 1) rfl (k_inc1 _) (by decide) rfl (fun ls hl => ?_)
          refine lv_goto (tgt := 4) hx hb dX0_countLost_34 (by decide) ?_
          have z_1 : ((itr (clS fl) 0 k) + 1) = (itr (clS fl) 0 (k + 1)) := (by rw [itr_s]; simp only [clS, eq_false c_12, eq_true c_21, not_false_eq_true, not_true_eq_false, and_true, true_and, and_false, false_and, and_self, ↓reduceIte, or_true, true_or, or_self, or_false, false_or])
          have hl := lv_chg (lv_sub hl [1, 0, 2] rfl) z_1
          exact ih_4 (k + 1) (by omega) (by omega) ls _ _ hM hS (lv_sub hl [1, 0, 2] rfl)
  have z_2 : 0 = (nI 0) := rfl
  have hl := lv_chg (lv_sub hl [0, 1, 2] rfl) z_2
  have z_1 : 0 = (itr (clS fl) 0 0) := rfl
  have hl := lv_chg (lv_sub hl [1, 0, 2] rfl) z_1
  exact lp_4 ((fl 8 4).toNatClampNeg + 1) 0 (by omega) (by omega) ls _ _ hM hS (lv_sub hl [1, 0, 2] rfl)
set_option maxHeartbeats 4000000 in
set_option maxRecDepth 100000 in
theorem c_X0_callCamel (l : Launch) (hlf : l.stackTraces = false) (g : GC) (M : HM) (a : Nat) (fl : FL) (i : Int32) (w : Int32) (hW : FlatAt g M a fl) : KM g l yX0_callCamel cX0_callCamel 5 none 4 0 0 [.ref a, .int i, .int w] M (.inl (none, (putF g M a (callF fl i w)))) := by
  refine k_meth hlf (by decide) (Nat.le_of_ble_eq_true rfl) fun p e s m below meth c ls hc hr hnx hM hS hl => ?_
  have hc : Cx g p l s m [.ref a, .int i, .int w].toArray meth c cX0_callCamel 5 RX0 := hc
  have hx := hc.1
  have hb := hc.2.1
  have hl : lv_has ls 5 [(0, .ref a), (1, .int i), (2, .int w)] := hl
  refine lv_aload_n hx hb dX0_callCamel_0 rfl (lv_at hl 0 rfl) ?_
  refine gt_X0_29 hc dX0_callCamel_1 hM hW.o rfl ?_
  refine lv_iload_n hx hb dX0_callCamel_4 rfl (lv_at hl 1 rfl) ?_
  refine k_V1 hc [.int i] cw_X0_72 rfl dX0_callCamel_5 (c_X3_get l hlf g _ (a + 9) 6 (fl 8 4) (fl 4) i (hW.row (k := 4) (r := a + 9) (by decide) rfl rfl) (by decide)) (hW.row (k := 4) (r := a + 9) (by decide) rfl rfl).1 hM hS hl.1 rfl rfl ⟨Nat.le_of_ble_eq_true rfl, Nat.le_of_ble_eq_true rfl⟩ ⟨Nat.le_of_ble_eq_true rfl, Nat.le_of_ble_eq_true rfl⟩ (Nat.le_of_ble_eq_true rfl) (fun H locs hM hS => ?_)
  refine lv_istore_n (lv' := [(3, .int (rget 6 (fl 8 4) (fl 4) i)), (0, .ref a), (1, .int i), (2, .int w)]) hx hb dX0_callCamel_8 rfl hl (by decide) rfl (fun ls hl => ?_)
  refine lv_iload_n hx hb dX0_callCamel_9 rfl (lv_at hl 3 rfl) ?_
  refine lv_iload_n hx hb dX0_callCamel_10 rfl (lv_at hl 0 rfl) ?_
  refine lv_isub hx hb dX0_callCamel_11 ?_
  refine k_abs hc q_X0_75 dX0_callCamel_12 hl.1 ⟨Nat.le_of_ble_eq_true rfl, Nat.le_of_ble_eq_true rfl, Nat.le_of_ble_eq_true rfl, Nat.le_of_ble_eq_true rfl⟩ ?_
  refine lv_istore (lv' := [(4, .int (absI (w - (rget 6 (fl 8 4) (fl 4) i)))), (3, .int (rget 6 (fl 8 4) (fl 4) i)), (0, .ref a), (1, .int i), (2, .int w)]) hx hb dX0_callCamel_15 hl (by decide) rfl (fun ls hl => ?_)
  refine lv_aload_n hx hb dX0_callCamel_17 rfl (lv_at hl 2 rfl) ?_
  refine lv_iload_n hx hb dX0_callCamel_18 rfl (lv_at hl 3 rfl) ?_
  refine k_V1 hc [.int i] cw_X0_123 rfl dX0_callCamel_19 (c_X0_isRoaming l hlf g _ a fl i hW) hW.o hM hS hl.1 rfl rfl ⟨Nat.le_of_ble_eq_true rfl, Nat.le_of_ble_eq_true rfl⟩ ⟨Nat.le_of_ble_eq_true rfl, Nat.le_of_ble_eq_true rfl⟩ (Nat.le_of_ble_eq_true rfl) (fun H locs hM hS => ?_)
  refine lv_if_eq (tgt := 57) hx hb dX0_callCamel_22 (by decide) (fun c_22 => ?_) (fun c_22 => ?_)
  · skip
    have c_22 := bI_eq.mp c_22
    exact k_vret hc hr dX0_callCamel_57 hM hS (Nat.le_of_ble_eq_true rfl) (Nat.le_of_ble_eq_true rfl) (by simp only [callF, eq_false c_22, not_false_eq_true, not_true_eq_false, and_true, true_and, and_false, false_and, and_self, ↓reduceIte, or_true, true_or, or_self, or_false, false_or]; try rw [putF_same hW])
  · skip
    have c_22 := bI_ne.mp c_22
    refine lv_iload hx hb dX0_callCamel_25 (lv_at hl 0 rfl) ?_
    refine lv_aload_n hx hb dX0_callCamel_27 rfl (lv_at hl 2 rfl) ?_
    refine k_V1 hc [] cw_X0_126 rfl dX0_callCamel_28 (c_X0_bellReach l hlf g _ a fl hW) hW.o hM hS hl.1 rfl rfl ⟨Nat.le_of_ble_eq_true rfl, Nat.le_of_ble_eq_true rfl⟩ ⟨Nat.le_of_ble_eq_true rfl, Nat.le_of_ble_eq_true rfl⟩ (Nat.le_of_ble_eq_true rfl) (fun H locs hM hS => ?_)
    refine lv_icmp_gt (tgt := 57) hx hb dX0_callCamel_31 (by decide) (fun c_31 => ?_) (fun c_31 => ?_)
    · skip
      exact k_vret hc hr dX0_callCamel_57 hM hS (Nat.le_of_ble_eq_true rfl) (Nat.le_of_ble_eq_true rfl) (by simp only [callF, eq_true c_22, eq_true c_31, not_false_eq_true, not_true_eq_false, and_true, true_and, and_false, false_and, and_self, ↓reduceIte, or_true, true_or, or_self, or_false, false_or]; try rw [putF_same hW])
    · skip
      refine lv_aload_n hx hb dX0_callCamel_34 rfl (lv_at hl 2 rfl) ?_
      refine gt_X0_29 hc dX0_callCamel_35 hM hW.o rfl ?_
      refine lv_iload_n hx hb dX0_callCamel_38 rfl (lv_at hl 3 rfl) ?_
      refine lv_iload_n hx hb dX0_callCamel_39 rfl (lv_at hl 1 rfl) ?_
      refine lv_iload_n hx hb dX0_callCamel_40 rfl (lv_at hl 1 rfl) ?_
      refine lv_iload_n hx hb dX0_callCamel_41 rfl (lv_at hl 4 rfl) ?_
      refine k_SN1 hc [.int (rget 6 (fl 8 4) (fl 4) i), .int w] cw_X0_88 dX0_callCamel_42 (c_X5_wayTo l hlf g _ (rget 6 (fl 8 4) (fl 4) i) w) hM hS hl.1 rfl rfl ⟨Nat.le_of_ble_eq_true rfl, Nat.le_of_ble_eq_true rfl⟩ ⟨Nat.le_of_ble_eq_true rfl, Nat.le_of_ble_eq_true rfl⟩ (Nat.le_of_ble_eq_true rfl) (fun H locs hM hS => ?_)
      refine lv_iload hx hb dX0_callCamel_45 (lv_at hl 0 rfl) ?_
      refine lv_bipush (v := 10) hx hb dX0_callCamel_47 (by decide) ?_
      refine k_min hc q_X0_129 dX0_callCamel_49 hl.1 ⟨Nat.le_of_ble_eq_true rfl, Nat.le_of_ble_eq_true rfl, Nat.le_of_ble_eq_true rfl, Nat.le_of_ble_eq_true rfl⟩ ?_
      refine lv_imul hx hb dX0_callCamel_52 ?_
      refine lv_iadd hx hb dX0_callCamel_53 ?_
      refine k_V0 hc [.int i, .int ((rget 6 (fl 8 4) (fl 4) i) + ((wayI (rget 6 (fl 8 4) (fl 4) i) w) * (minI (absI (w - (rget 6 (fl 8 4) (fl 4) i))) 10)))] cw_X0_116 rfl dX0_callCamel_54 (c_X3_set l hlf g _ (a + 9) 6 (fl 8 4) (fl 4) i ((rget 6 (fl 8 4) (fl 4) i) + ((wayI (rget 6 (fl 8 4) (fl 4) i) w) * (minI (absI (w - (rget 6 (fl 8 4) (fl 4) i))) 10))) (hW.row (k := 4) (r := a + 9) (by decide) rfl rfl) (by decide)) (hW.row (k := 4) (r := a + 9) (by decide) rfl rfl).1 hM hS hl.1 rfl rfl ⟨Nat.le_of_ble_eq_true rfl, Nat.le_of_ble_eq_true rfl⟩ ⟨Nat.le_of_ble_eq_true rfl, Nat.le_of_ble_eq_true rfl⟩ (Nat.le_of_ble_eq_true rfl) (fun H locs hM hS => ?_)
      have hM := hR.eq hM (putF_rowf hW (k := 4) (by decide) rfl rfl)
      have hW := FlatAt.put (g := g) (M := M) (a := a) (fl := (up1 fl 4 (rset 6 (fl 8 4) (fl 4) i ((rget 6 (fl 8 4) (fl 4) i) + ((wayI (rget 6 (fl 8 4) (fl 4) i) w) * (minI (absI (w - (rget 6 (fl 8 4) (fl 4) i))) 10))))))
      exact k_vret hc hr dX0_callCamel_57 hM hS (Nat.le_of_ble_eq_true rfl) (Nat.le_of_ble_eq_true rfl) (by simp only [callF, eq_true c_22, eq_false c_31, not_false_eq_true, not_true_eq_false, and_true, true_and, and_false, false_and, and_self, ↓reduceIte, or_true, true_or, or_self, or_false, false_or]; try rw [putF_same hW])
set_option maxHeartbeats 4000000 in
set_option maxRecDepth 100000 in
theorem c_X0_farToPost (l : Launch) (hlf : l.stackTraces = false) (g : GC) (M : HM) (a : Nat) (fl : FL) (w : Int32) (hW : FlatAt g M a fl) : KM g l yX0_farToPost cX0_farToPost 5 (some .int) 2 0 0 [.ref a, .int w] M (.inl (some (.int (fpF fl w)), M)) := by
  refine k_meth hlf (by decide) (Nat.le_of_ble_eq_true rfl) fun p e s m below meth c ls hc hr hnx hM hS hl => ?_
  have hc : Cx g p l s m [.ref a, .int w].toArray meth c cX0_farToPost 5 RX0 := hc
  have hx := hc.1
  have hb := hc.2.1
  have hl : lv_has ls 5 [(0, .ref a), (1, .int w)] := hl
  refine lv_iconst (v := (-1)) hx hb dX0_farToPost_0 (by decide) ?_
  refine lv_istore_n (lv' := [(2, .int (-1)), (0, .ref a), (1, .int w)]) hx hb dX0_farToPost_1 rfl hl (by decide) rfl (fun ls hl => ?_)
  refine lv_iconst (v := 0) hx hb dX0_farToPost_2 (by decide) ?_
  refine lv_istore_n (lv' := [(3, .int 0), (2, .int (-1)), (0, .ref a), (1, .int w)]) hx hb dX0_farToPost_3 rfl hl (by decide) rfl (fun ls hl => ?_)
  have lp_4 : ∀ (D k : Nat), ((fl 8 1).toNatClampNeg) - k < D → k ≤ (fl 8 1).toNatClampNeg → ∀ (ls : Array Slot) (H : Heap) (locs : List Loc), hR g M H → va_S (gA g) s.heap H locs → lv_has ls 5 [(3, .int (nI k)), (2, .int (itr (fpS fl w) (-1) k)), (0, .ref a), (1, .int w)] → W p l e (rmOf 2 0 0) s m [.ref a, .int w].toArray below meth c H locs 0 0 (vx_MQ below (KQ g (.inl (some (.int (fpF fl w)), M))) (KX g (.inl (some (.int (fpF fl w)), M))) [.ref a, .int w].toArray s 0 0 (gA g)) (F0 m 4 ls []) := by
    intro D
    induction D with
    | zero => intro k hD; exact absurd hD (Nat.not_lt_zero _)
    | succ D ih_4 =>
      intro k hD hk ls H locs hM hS hl
      refine lv_iload_n hx hb dX0_farToPost_4 rfl (lv_at hl 0 rfl) ?_
      refine lv_aload_n hx hb dX0_farToPost_5 rfl (lv_at hl 2 rfl) ?_
      refine gt_X0_20 hc dX0_farToPost_6 hM hW.o rfl ?_
      refine k_V1 hc [] cw_X0_104 rfl dX0_farToPost_9 (c_X3_size l hlf g _ (a + 3) 4 (fl 8 1) (fl 1) (hW.row (k := 1) (r := a + 3) (by decide) rfl rfl)) (hW.row (k := 1) (r := a + 3) (by decide) rfl rfl).1 hM hS hl.1 rfl rfl ⟨Nat.le_of_ble_eq_true rfl, Nat.le_of_ble_eq_true rfl⟩ ⟨Nat.le_of_ble_eq_true rfl, Nat.le_of_ble_eq_true rfl⟩ (Nat.le_of_ble_eq_true rfl) (fun H locs hM hS => ?_)
      refine lv_icmp_ge (tgt := 50) hx hb dX0_farToPost_12 (by decide) (fun c_12 => ?_) (fun c_12 => ?_)
      · skip
        have c_12 := (k_le (by have := k_clamp_lt (fl 8 1); omega)).mp c_12
        refine lv_iload_n hx hb dX0_farToPost_50 rfl (lv_at hl 1 rfl) ?_
        exact k_iret hc hr dX0_farToPost_51 hM hS (Nat.le_of_ble_eq_true rfl) (Nat.le_of_ble_eq_true rfl) (by rw [fpF, show k = (fl 8 1).toNatClampNeg by omega])
      · skip
        have c_12 : ¬ (fl 8 1).toNatClampNeg ≤ k := fun h => c_12 ((k_le (by have := k_clamp_lt (fl 8 1); omega)).mpr h)
        refine lv_aload_n hx hb dX0_farToPost_15 rfl (lv_at hl 2 rfl) ?_
        refine gt_X0_20 hc dX0_farToPost_16 hM hW.o rfl ?_
        refine lv_iload_n hx hb dX0_farToPost_19 rfl (lv_at hl 0 rfl) ?_
        refine k_V1 hc [.int (nI k)] cw_X0_72 rfl dX0_farToPost_20 (c_X3_get l hlf g _ (a + 3) 4 (fl 8 1) (fl 1) (nI k) (hW.row (k := 1) (r := a + 3) (by decide) rfl rfl) (by decide)) (hW.row (k := 1) (r := a + 3) (by decide) rfl rfl).1 hM hS hl.1 rfl rfl ⟨Nat.le_of_ble_eq_true rfl, Nat.le_of_ble_eq_true rfl⟩ ⟨Nat.le_of_ble_eq_true rfl, Nat.le_of_ble_eq_true rfl⟩ (Nat.le_of_ble_eq_true rfl) (fun H locs hM hS => ?_)
        refine lv_iload_n hx hb dX0_farToPost_23 rfl (lv_at hl 3 rfl) ?_
        refine lv_isub hx hb dX0_farToPost_24 ?_
        refine k_abs hc q_X0_75 dX0_farToPost_25 hl.1 ⟨Nat.le_of_ble_eq_true rfl, Nat.le_of_ble_eq_true rfl, Nat.le_of_ble_eq_true rfl, Nat.le_of_ble_eq_true rfl⟩ ?_
        refine lv_istore (lv' := [(4, .int (absI ((rget 4 (fl 8 1) (fl 1) (nI k)) - w))), (3, .int (nI k)), (2, .int (itr (fpS fl w) (-1) k)), (0, .ref a), (1, .int w)]) hx hb dX0_farToPost_28 hl (by decide) rfl (fun ls hl => ?_)
        refine lv_iload_n hx hb dX0_farToPost_30 rfl (lv_at hl 2 rfl) ?_
        refine lv_iconst (v := (-1)) hx hb dX0_farToPost_31 (by decide) ?_
        refine lv_icmp_eq (tgt := 41) hx hb dX0_farToPost_32 (by decide) (fun c_32 => ?_) (fun c_32 => ?_)
        · skip
          refine lv_iload hx hb dX0_farToPost_41 (lv_at hl 0 rfl) ?_
          refine lv_istore_n (lv' := [(2, .int (absI ((rget 4 (fl 8 1) (fl 1) (nI k)) - w))), (4, .int (absI ((rget 4 (fl 8 1) (fl 1) (nI k)) - w))), (3, .int (nI k)), (0, .ref a), (1, .int w)]) hx hb dX0_farToPost_43 rfl hl (by decide) rfl (fun ls hl => ?_)
          refine lv_iinc (v := (nI (k + 1))) (lv' := [(3, .int (nI (k + 1))), (2, .int (absI ((rget 4 (fl 8 1) (fl 1) (nI k)) - w))), (4, .int (absI ((rget 4 (fl 8 1) (fl 1) (nI k)) - w))), (0, .ref a), (1, .int w)]) hx hb dX0_farToPost_44 hl (k := 2) rfl (k_inc1 _) (by decide) rfl (fun ls hl => ?_)
          refine lv_goto (tgt := 4) hx hb dX0_farToPost_47 (by decide) ?_
          have z_2 : (absI ((rget 4 (fl 8 1) (fl 1) (nI k)) - w)) = (itr (fpS fl w) (-1) (k + 1)) := (by rw [itr_s]; simp only [fpS, eq_false c_12, eq_true c_32, not_false_eq_true, not_true_eq_false, and_true, true_and, and_false, false_and, and_self, ↓reduceIte, or_true, true_or, or_self, or_false, false_or, or_true, true_or, or_self, or_false, false_or])
          have hl := lv_chg (lv_sub hl [1, 0, 2, 3, 4] rfl) z_2
          exact ih_4 (k + 1) (by omega) (by omega) ls _ _ hM hS (lv_sub hl [1, 0, 3, 4] rfl)
        · skip
          refine lv_iload hx hb dX0_farToPost_35 (lv_at hl 0 rfl) ?_
          refine lv_iload_n hx hb dX0_farToPost_37 rfl (lv_at hl 2 rfl) ?_
          refine lv_icmp_ge (tgt := 44) hx hb dX0_farToPost_38 (by decide) (fun c_38 => ?_) (fun c_38 => ?_)
          · skip
            refine lv_iinc (v := (nI (k + 1))) (lv' := [(3, .int (nI (k + 1))), (4, .int (absI ((rget 4 (fl 8 1) (fl 1) (nI k)) - w))), (2, .int (itr (fpS fl w) (-1) k)), (0, .ref a), (1, .int w)]) hx hb dX0_farToPost_44 hl (k := 1) rfl (k_inc1 _) (by decide) rfl (fun ls hl => ?_)
            refine lv_goto (tgt := 4) hx hb dX0_farToPost_47 (by decide) ?_
            have z_2 : (itr (fpS fl w) (-1) k) = (itr (fpS fl w) (-1) (k + 1)) := (by rw [itr_s]; simp only [fpS, eq_false c_12, eq_false c_32, eq_true c_38, not_false_eq_true, not_true_eq_false, and_true, true_and, and_false, false_and, and_self, ↓reduceIte, or_true, true_or, or_self, or_false, false_or, or_true, true_or, or_self, or_false, false_or])
            have hl := lv_chg (lv_sub hl [2, 0, 1, 3, 4] rfl) z_2
            exact ih_4 (k + 1) (by omega) (by omega) ls _ _ hM hS (lv_sub hl [1, 0, 3, 4] rfl)
          · skip
            refine lv_iload hx hb dX0_farToPost_41 (lv_at hl 0 rfl) ?_
            refine lv_istore_n (lv' := [(2, .int (absI ((rget 4 (fl 8 1) (fl 1) (nI k)) - w))), (4, .int (absI ((rget 4 (fl 8 1) (fl 1) (nI k)) - w))), (3, .int (nI k)), (0, .ref a), (1, .int w)]) hx hb dX0_farToPost_43 rfl hl (by decide) rfl (fun ls hl => ?_)
            refine lv_iinc (v := (nI (k + 1))) (lv' := [(3, .int (nI (k + 1))), (2, .int (absI ((rget 4 (fl 8 1) (fl 1) (nI k)) - w))), (4, .int (absI ((rget 4 (fl 8 1) (fl 1) (nI k)) - w))), (0, .ref a), (1, .int w)]) hx hb dX0_farToPost_44 hl (k := 2) rfl (k_inc1 _) (by decide) rfl (fun ls hl => ?_)
            refine lv_goto (tgt := 4) hx hb dX0_farToPost_47 (by decide) ?_
            have z_2 : (absI ((rget 4 (fl 8 1) (fl 1) (nI k)) - w)) = (itr (fpS fl w) (-1) (k + 1)) := (by rw [itr_s]; simp only [fpS, eq_false c_12, eq_false c_32, eq_false c_38, not_false_eq_true, not_true_eq_false, and_true, true_and, and_false, false_and, and_self, ↓reduceIte, or_true, true_or, or_self, or_false, false_or, or_true, true_or, or_self, or_false, false_or])
            have hl := lv_chg (lv_sub hl [1, 0, 2, 3, 4] rfl) z_2
            exact ih_4 (k + 1) (by omega) (by omega) ls _ _ hM hS (lv_sub hl [1, 0, 3, 4] rfl)
  have z_3 : 0 = (nI 0) := rfl
  have hl := lv_chg (lv_sub hl [0, 1, 2, 3] rfl) z_3
  have z_2 : (-1) = (itr (fpS fl w) (-1) 0) := rfl
  have hl := lv_chg (lv_sub hl [1, 0, 2, 3] rfl) z_2
  exact lp_4 ((fl 8 1).toNatClampNeg + 1) 0 (by omega) (by omega) ls _ _ hM hS (lv_sub hl [1, 0, 2, 3] rfl)
set_option maxHeartbeats 4000000 in
set_option maxRecDepth 100000 in
theorem c_X0_isNearer (l : Launch) (hlf : l.stackTraces = false) (g : GC) (M : HM) (a : Nat) (fl : FL) (w : Int32) (i : Int32) (o : Int32) (hW : FlatAt g M a fl) : KM g l yX0_isNearer cX0_isNearer 6 (some .boolean) 2 0 0 [.ref a, .int w, .int i, .int o] M (.inl (some (.int (bI (nearP fl w i o))), M)) := by
  refine k_meth hlf (by decide) (Nat.le_of_ble_eq_true rfl) fun p e s m below meth c ls hc hr hnx hM hS hl => ?_
  have hc : Cx g p l s m [.ref a, .int w, .int i, .int o].toArray meth c cX0_isNearer 6 RX0 := hc
  have hx := hc.1
  have hb := hc.2.1
  have hl : lv_has ls 6 [(0, .ref a), (1, .int w), (2, .int i), (3, .int o)] := hl
  refine lv_aload_n hx hb dX0_isNearer_0 rfl (lv_at hl 0 rfl) ?_
  refine gt_X0_29 hc dX0_isNearer_1 hM hW.o rfl ?_
  refine lv_iload_n hx hb dX0_isNearer_4 rfl (lv_at hl 2 rfl) ?_
  refine k_V1 hc [.int i] cw_X0_72 rfl dX0_isNearer_5 (c_X3_get l hlf g _ (a + 9) 6 (fl 8 4) (fl 4) i (hW.row (k := 4) (r := a + 9) (by decide) rfl rfl) (by decide)) (hW.row (k := 4) (r := a + 9) (by decide) rfl rfl).1 hM hS hl.1 rfl rfl ⟨Nat.le_of_ble_eq_true rfl, Nat.le_of_ble_eq_true rfl⟩ ⟨Nat.le_of_ble_eq_true rfl, Nat.le_of_ble_eq_true rfl⟩ (Nat.le_of_ble_eq_true rfl) (fun H locs hM hS => ?_)
  refine lv_iload_n hx hb dX0_isNearer_8 rfl (lv_at hl 1 rfl) ?_
  refine lv_isub hx hb dX0_isNearer_9 ?_
  refine k_abs hc q_X0_75 dX0_isNearer_10 hl.1 ⟨Nat.le_of_ble_eq_true rfl, Nat.le_of_ble_eq_true rfl, Nat.le_of_ble_eq_true rfl, Nat.le_of_ble_eq_true rfl⟩ ?_
  refine lv_istore (lv' := [(4, .int (absI ((rget 6 (fl 8 4) (fl 4) i) - w))), (0, .ref a), (1, .int w), (2, .int i), (3, .int o)]) hx hb dX0_isNearer_13 hl (by decide) rfl (fun ls hl => ?_)
  refine lv_aload_n hx hb dX0_isNearer_15 rfl (lv_at hl 1 rfl) ?_
  refine gt_X0_29 hc dX0_isNearer_16 hM hW.o rfl ?_
  refine lv_iload_n hx hb dX0_isNearer_19 rfl (lv_at hl 4 rfl) ?_
  refine k_V1 hc [.int o] cw_X0_72 rfl dX0_isNearer_20 (c_X3_get l hlf g _ (a + 9) 6 (fl 8 4) (fl 4) o (hW.row (k := 4) (r := a + 9) (by decide) rfl rfl) (by decide)) (hW.row (k := 4) (r := a + 9) (by decide) rfl rfl).1 hM hS hl.1 rfl rfl ⟨Nat.le_of_ble_eq_true rfl, Nat.le_of_ble_eq_true rfl⟩ ⟨Nat.le_of_ble_eq_true rfl, Nat.le_of_ble_eq_true rfl⟩ (Nat.le_of_ble_eq_true rfl) (fun H locs hM hS => ?_)
  refine lv_iload_n hx hb dX0_isNearer_23 rfl (lv_at hl 2 rfl) ?_
  refine lv_isub hx hb dX0_isNearer_24 ?_
  refine k_abs hc q_X0_75 dX0_isNearer_25 hl.1 ⟨Nat.le_of_ble_eq_true rfl, Nat.le_of_ble_eq_true rfl, Nat.le_of_ble_eq_true rfl, Nat.le_of_ble_eq_true rfl⟩ ?_
  refine lv_istore (lv' := [(5, .int (absI ((rget 6 (fl 8 4) (fl 4) o) - w))), (4, .int (absI ((rget 6 (fl 8 4) (fl 4) i) - w))), (0, .ref a), (1, .int w), (2, .int i), (3, .int o)]) hx hb dX0_isNearer_28 hl (by decide) rfl (fun ls hl => ?_)
  refine lv_iload hx hb dX0_isNearer_30 (lv_at hl 1 rfl) ?_
  refine lv_iload hx hb dX0_isNearer_32 (lv_at hl 0 rfl) ?_
  refine lv_icmp_eq (tgt := 50) hx hb dX0_isNearer_34 (by decide) (fun c_34 => ?_) (fun c_34 => ?_)
  · skip
    refine lv_aload_n hx hb dX0_isNearer_50 rfl (lv_at hl 2 rfl) ?_
    refine gt_X0_32 hc dX0_isNearer_51 hM hW.o rfl ?_
    refine lv_iload_n hx hb dX0_isNearer_54 rfl (lv_at hl 4 rfl) ?_
    refine k_V1 hc [.int i] cw_X0_72 rfl dX0_isNearer_55 (c_X3_get l hlf g _ (a + 11) 6 (fl 8 5) (fl 5) i (hW.row (k := 5) (r := a + 11) (by decide) rfl rfl) (by decide)) (hW.row (k := 5) (r := a + 11) (by decide) rfl rfl).1 hM hS hl.1 rfl rfl ⟨Nat.le_of_ble_eq_true rfl, Nat.le_of_ble_eq_true rfl⟩ ⟨Nat.le_of_ble_eq_true rfl, Nat.le_of_ble_eq_true rfl⟩ (Nat.le_of_ble_eq_true rfl) (fun H locs hM hS => ?_)
    refine lv_aload_n hx hb dX0_isNearer_58 rfl (lv_at hl 2 rfl) ?_
    refine gt_X0_32 hc dX0_isNearer_59 hM hW.o rfl ?_
    refine lv_iload_n hx hb dX0_isNearer_62 rfl (lv_at hl 5 rfl) ?_
    refine k_V1 hc [.int o] cw_X0_72 rfl dX0_isNearer_63 (c_X3_get l hlf g _ (a + 11) 6 (fl 8 5) (fl 5) o (hW.row (k := 5) (r := a + 11) (by decide) rfl rfl) (by decide)) (hW.row (k := 5) (r := a + 11) (by decide) rfl rfl).1 hM hS hl.1 rfl rfl ⟨Nat.le_of_ble_eq_true rfl, Nat.le_of_ble_eq_true rfl⟩ ⟨Nat.le_of_ble_eq_true rfl, Nat.le_of_ble_eq_true rfl⟩ (Nat.le_of_ble_eq_true rfl) (fun H locs hM hS => ?_)
    refine lv_icmp_le (tgt := 73) hx hb dX0_isNearer_66 (by decide) (fun c_66 => ?_) (fun c_66 => ?_)
    · skip
      refine lv_iconst (v := 0) hx hb dX0_isNearer_73 (by decide) ?_
      exact k_zret hc hr dX0_isNearer_74 hM hS (by first | rfl | exact bI_n) (Nat.le_of_ble_eq_true rfl) (Nat.le_of_ble_eq_true rfl) (by simp only [bI, nearP, or_false, false_or, or_true, eq_true c_34, eq_true c_66, not_false_eq_true, not_true_eq_false, and_true, true_and, and_false, false_and, and_self, ↓reduceIte, or_true, true_or, or_self, or_false, false_or])
    · skip
      refine lv_iconst (v := 1) hx hb dX0_isNearer_69 (by decide) ?_
      refine lv_goto (tgt := 74) hx hb dX0_isNearer_70 (by decide) ?_
      exact k_zret hc hr dX0_isNearer_74 hM hS (by first | rfl | exact bI_n) (Nat.le_of_ble_eq_true rfl) (Nat.le_of_ble_eq_true rfl) (by simp only [bI, nearP, or_false, false_or, or_true, eq_true c_34, eq_false c_66, not_false_eq_true, not_true_eq_false, and_true, true_and, and_false, false_and, and_self, ↓reduceIte, or_true, true_or, or_self, or_false, false_or])
  · skip
    refine lv_iload hx hb dX0_isNearer_37 (lv_at hl 1 rfl) ?_
    refine lv_iload hx hb dX0_isNearer_39 (lv_at hl 0 rfl) ?_
    refine lv_icmp_ge (tgt := 48) hx hb dX0_isNearer_41 (by decide) (fun c_41 => ?_) (fun c_41 => ?_)
    · skip
      refine lv_iconst (v := 0) hx hb dX0_isNearer_48 (by decide) ?_
      exact k_zret hc hr dX0_isNearer_49 hM hS (by first | rfl | exact bI_n) (Nat.le_of_ble_eq_true rfl) (Nat.le_of_ble_eq_true rfl) (by simp only [bI, nearP, or_false, false_or, or_true, eq_false c_34, eq_true c_41, not_false_eq_true, not_true_eq_false, and_true, true_and, and_false, false_and, and_self, ↓reduceIte, or_true, true_or, or_self, or_false, false_or])
    · skip
      refine lv_iconst (v := 1) hx hb dX0_isNearer_44 (by decide) ?_
      refine lv_goto (tgt := 49) hx hb dX0_isNearer_45 (by decide) ?_
      exact k_zret hc hr dX0_isNearer_49 hM hS (by first | rfl | exact bI_n) (Nat.le_of_ble_eq_true rfl) (Nat.le_of_ble_eq_true rfl) (by simp only [bI, nearP, or_false, false_or, or_true, eq_false c_34, eq_false c_41, not_false_eq_true, not_true_eq_false, and_true, true_and, and_false, false_and, and_self, ↓reduceIte, or_true, true_or, or_self, or_false, false_or])
set_option maxHeartbeats 4000000 in
set_option maxRecDepth 100000 in
theorem c_X0_nearestCamel (l : Launch) (hlf : l.stackTraces = false) (g : GC) (M : HM) (a : Nat) (fl : FL) (w : Int32) (hW : FlatAt g M a fl) : KM g l yX0_nearestCamel cX0_nearestCamel 4 (some .int) 3 0 0 [.ref a, .int w] M (.inl (some (.int (ncF fl w)), M)) := by
  refine k_meth hlf (by decide) (Nat.le_of_ble_eq_true rfl) fun p e s m below meth c ls hc hr hnx hM hS hl => ?_
  have hc : Cx g p l s m [.ref a, .int w].toArray meth c cX0_nearestCamel 4 RX0 := hc
  have hx := hc.1
  have hb := hc.2.1
  have hl : lv_has ls 4 [(0, .ref a), (1, .int w)] := hl
  refine lv_iconst (v := (-1)) hx hb dX0_nearestCamel_0 (by decide) ?_
  refine lv_istore_n (lv' := [(2, .int (-1)), (0, .ref a), (1, .int w)]) hx hb dX0_nearestCamel_1 rfl hl (by decide) rfl (fun ls hl => ?_)
  refine lv_iconst (v := 0) hx hb dX0_nearestCamel_2 (by decide) ?_
  refine lv_istore_n (lv' := [(3, .int 0), (2, .int (-1)), (0, .ref a), (1, .int w)]) hx hb dX0_nearestCamel_3 rfl hl (by decide) rfl (fun ls hl => ?_)
  have lp_4 : ∀ (D k : Nat), ((fl 8 4).toNatClampNeg) - k < D → k ≤ (fl 8 4).toNatClampNeg → ∀ (ls : Array Slot) (H : Heap) (locs : List Loc), hR g M H → va_S (gA g) s.heap H locs → lv_has ls 4 [(3, .int (nI k)), (2, .int (itr (ncS fl w) (-1) k)), (0, .ref a), (1, .int w)] → W p l e (rmOf 3 0 0) s m [.ref a, .int w].toArray below meth c H locs 0 0 (vx_MQ below (KQ g (.inl (some (.int (ncF fl w)), M))) (KX g (.inl (some (.int (ncF fl w)), M))) [.ref a, .int w].toArray s 0 0 (gA g)) (F0 m 4 ls []) := by
    intro D
    induction D with
    | zero => intro k hD; exact absurd hD (Nat.not_lt_zero _)
    | succ D ih_4 =>
      intro k hD hk ls H locs hM hS hl
      refine lv_iload_n hx hb dX0_nearestCamel_4 rfl (lv_at hl 0 rfl) ?_
      refine lv_aload_n hx hb dX0_nearestCamel_5 rfl (lv_at hl 2 rfl) ?_
      refine gt_X0_29 hc dX0_nearestCamel_6 hM hW.o rfl ?_
      refine k_V1 hc [] cw_X0_104 rfl dX0_nearestCamel_9 (c_X3_size l hlf g _ (a + 9) 6 (fl 8 4) (fl 4) (hW.row (k := 4) (r := a + 9) (by decide) rfl rfl)) (hW.row (k := 4) (r := a + 9) (by decide) rfl rfl).1 hM hS hl.1 rfl rfl ⟨Nat.le_of_ble_eq_true rfl, Nat.le_of_ble_eq_true rfl⟩ ⟨Nat.le_of_ble_eq_true rfl, Nat.le_of_ble_eq_true rfl⟩ (Nat.le_of_ble_eq_true rfl) (fun H locs hM hS => ?_)
      refine lv_icmp_ge (tgt := 38) hx hb dX0_nearestCamel_12 (by decide) (fun c_12 => ?_) (fun c_12 => ?_)
      · skip
        have c_12 := (k_le (by have := k_clamp_lt (fl 8 4); omega)).mp c_12
        refine lv_iload_n hx hb dX0_nearestCamel_38 rfl (lv_at hl 1 rfl) ?_
        exact k_iret hc hr dX0_nearestCamel_39 hM hS (Nat.le_of_ble_eq_true rfl) (Nat.le_of_ble_eq_true rfl) (by rw [ncF, show k = (fl 8 4).toNatClampNeg by omega])
      · skip
        have c_12 : ¬ (fl 8 4).toNatClampNeg ≤ k := fun h => c_12 ((k_le (by have := k_clamp_lt (fl 8 4); omega)).mpr h)
        refine lv_iload_n hx hb dX0_nearestCamel_15 rfl (lv_at hl 1 rfl) ?_
        refine lv_iconst (v := (-1)) hx hb dX0_nearestCamel_16 (by decide) ?_
        refine lv_icmp_eq (tgt := 30) hx hb dX0_nearestCamel_17 (by decide) (fun c_17 => ?_) (fun c_17 => ?_)
        · skip
          refine lv_iload_n hx hb dX0_nearestCamel_30 rfl (lv_at hl 0 rfl) ?_
          refine lv_istore_n (lv' := [(2, .int (nI k)), (3, .int (nI k)), (0, .ref a), (1, .int w)]) hx hb dX0_nearestCamel_31 rfl hl (by decide) rfl (fun ls hl => ?_)
          refine lv_iinc (v := (nI (k + 1))) (lv' := [(3, .int (nI (k + 1))), (2, .int (nI k)), (0, .ref a), (1, .int w)]) hx hb dX0_nearestCamel_32 hl (k := 1) rfl (k_inc1 _) (by decide) rfl (fun ls hl => ?_)
          refine lv_goto (tgt := 4) hx hb dX0_nearestCamel_35 (by decide) ?_
          have z_2 : (nI k) = (itr (ncS fl w) (-1) (k + 1)) := (by rw [itr_s]; simp only [ncS, eq_false c_12, eq_true c_17, not_false_eq_true, not_true_eq_false, and_true, true_and, and_false, false_and, and_self, ↓reduceIte, or_true, true_or, or_self, or_false, false_or, or_true, true_or, or_self, or_false, false_or])
          have hl := lv_chg (lv_sub hl [1, 0, 2, 3] rfl) z_2
          exact ih_4 (k + 1) (by omega) (by omega) ls _ _ hM hS (lv_sub hl [1, 0, 2, 3] rfl)
        · skip
          refine lv_aload_n hx hb dX0_nearestCamel_20 rfl (lv_at hl 2 rfl) ?_
          refine lv_iload_n hx hb dX0_nearestCamel_21 rfl (lv_at hl 3 rfl) ?_
          refine lv_iload_n hx hb dX0_nearestCamel_22 rfl (lv_at hl 0 rfl) ?_
          refine lv_iload_n hx hb dX0_nearestCamel_23 rfl (lv_at hl 1 rfl) ?_
          refine k_V1 hc [.int w, .int (nI k), .int (itr (ncS fl w) (-1) k)] cw_X0_132 rfl dX0_nearestCamel_24 (c_X0_isNearer l hlf g _ a fl w (nI k) (itr (ncS fl w) (-1) k) hW) hW.o hM hS hl.1 rfl rfl ⟨Nat.le_of_ble_eq_true rfl, Nat.le_of_ble_eq_true rfl⟩ ⟨Nat.le_of_ble_eq_true rfl, Nat.le_of_ble_eq_true rfl⟩ (Nat.le_of_ble_eq_true rfl) (fun H locs hM hS => ?_)
          refine lv_if_eq (tgt := 32) hx hb dX0_nearestCamel_27 (by decide) (fun c_27 => ?_) (fun c_27 => ?_)
          · skip
            have c_27 := bI_eq.mp c_27
            refine lv_iinc (v := (nI (k + 1))) (lv' := [(3, .int (nI (k + 1))), (2, .int (itr (ncS fl w) (-1) k)), (0, .ref a), (1, .int w)]) hx hb dX0_nearestCamel_32 hl (k := 0) rfl (k_inc1 _) (by decide) rfl (fun ls hl => ?_)
            refine lv_goto (tgt := 4) hx hb dX0_nearestCamel_35 (by decide) ?_
            have z_2 : (itr (ncS fl w) (-1) k) = (itr (ncS fl w) (-1) (k + 1)) := (by rw [itr_s]; simp only [ncS, eq_false c_12, eq_false c_17, eq_false c_27, not_false_eq_true, not_true_eq_false, and_true, true_and, and_false, false_and, and_self, ↓reduceIte, or_true, true_or, or_self, or_false, false_or, or_true, true_or, or_self, or_false, false_or])
            have hl := lv_chg (lv_sub hl [1, 0, 2, 3] rfl) z_2
            exact ih_4 (k + 1) (by omega) (by omega) ls _ _ hM hS (lv_sub hl [1, 0, 2, 3] rfl)
          · skip
            have c_27 := bI_ne.mp c_27
            refine lv_iload_n hx hb dX0_nearestCamel_30 rfl (lv_at hl 0 rfl) ?_
            refine lv_istore_n (lv' := [(2, .int (nI k)), (3, .int (nI k)), (0, .ref a), (1, .int w)]) hx hb dX0_nearestCamel_31 rfl hl (by decide) rfl (fun ls hl => ?_)
            refine lv_iinc (v := (nI (k + 1))) (lv' := [(3, .int (nI (k + 1))), (2, .int (nI k)), (0, .ref a), (1, .int w)]) hx hb dX0_nearestCamel_32 hl (k := 1) rfl (k_inc1 _) (by decide) rfl (fun ls hl => ?_)
            refine lv_goto (tgt := 4) hx hb dX0_nearestCamel_35 (by decide) ?_
            have z_2 : (nI k) = (itr (ncS fl w) (-1) (k + 1)) := (by rw [itr_s]; simp only [ncS, eq_false c_12, eq_false c_17, eq_true c_27, not_false_eq_true, not_true_eq_false, and_true, true_and, and_false, false_and, and_self, ↓reduceIte, or_true, true_or, or_self, or_false, false_or, or_true, true_or, or_self, or_false, false_or])
            have hl := lv_chg (lv_sub hl [1, 0, 2, 3] rfl) z_2
            exact ih_4 (k + 1) (by omega) (by omega) ls _ _ hM hS (lv_sub hl [1, 0, 2, 3] rfl)
  have z_3 : 0 = (nI 0) := rfl
  have hl := lv_chg (lv_sub hl [0, 1, 2, 3] rfl) z_3
  have z_2 : (-1) = (itr (ncS fl w) (-1) 0) := rfl
  have hl := lv_chg (lv_sub hl [1, 0, 2, 3] rfl) z_2
  exact lp_4 ((fl 8 4).toNatClampNeg + 1) 0 (by omega) (by omega) ls _ _ hM hS (lv_sub hl [1, 0, 2, 3] rfl)
set_option maxHeartbeats 4000000 in
set_option maxRecDepth 100000 in
theorem c_X0_thirstAfter (l : Launch) (hlf : l.stackTraces = false) (g : GC) (M : HM) (a : Nat) (fl : FL) (i : Int32) (h : Int32) (hW : FlatAt g M a fl) : KM g l yX0_thirstAfter cX0_thirstAfter 3 (some .int) 2 0 0 [.ref a, .int i, .int h] M (.inl (some (.int (thA i h)), M)) := by
  refine k_meth hlf (by decide) (Nat.le_of_ble_eq_true rfl) fun p e s m below meth c ls hc hr hnx hM hS hl => ?_
  have hc : Cx g p l s m [.ref a, .int i, .int h].toArray meth c cX0_thirstAfter 3 RX0 := hc
  have hx := hc.1
  have hb := hc.2.1
  have hl : lv_has ls 3 [(0, .ref a), (1, .int i), (2, .int h)] := hl
  refine lv_bipush (v := 20) hx hb dX0_thirstAfter_0 (by decide) ?_
  refine lv_iload_n hx hb dX0_thirstAfter_2 rfl (lv_at hl 1 rfl) ?_
  refine lv_iload_n hx hb dX0_thirstAfter_3 rfl (lv_at hl 2 rfl) ?_
  refine lv_iconst (v := 4) hx hb dX0_thirstAfter_4 (by decide) ?_
  refine lv_idiv hx hb dX0_thirstAfter_5 (by decide) ?_
  refine lv_iadd hx hb dX0_thirstAfter_6 ?_
  refine k_min hc q_X0_129 dX0_thirstAfter_7 hl.1 ⟨Nat.le_of_ble_eq_true rfl, Nat.le_of_ble_eq_true rfl, Nat.le_of_ble_eq_true rfl, Nat.le_of_ble_eq_true rfl⟩ ?_
  exact k_iret hc hr dX0_thirstAfter_10 hM hS (Nat.le_of_ble_eq_true rfl) (Nat.le_of_ble_eq_true rfl) (by rfl)
set_option maxHeartbeats 4000000 in
set_option maxRecDepth 100000 in
theorem c_X0_hoursUntilLost (l : Launch) (hlf : l.stackTraces = false) (g : GC) (M : HM) (a : Nat) (fl : FL) (i : Int32) (hW : FlatAt g M a fl) : KM g l yX0_hoursUntilLost cX0_hoursUntilLost 4 (some .int) 3 0 0 [.ref a, .int i] M (.inl (some (.int (lostF fl i)), M)) := by
  refine k_meth hlf (by decide) (Nat.le_of_ble_eq_true rfl) fun p e s m below meth c ls hc hr hnx hM hS hl => ?_
  have hc : Cx g p l s m [.ref a, .int i].toArray meth c cX0_hoursUntilLost 4 RX0 := hc
  have hx := hc.1
  have hb := hc.2.1
  have hl : lv_has ls 4 [(0, .ref a), (1, .int i)] := hl
  refine lv_aload_n hx hb dX0_hoursUntilLost_0 rfl (lv_at hl 0 rfl) ?_
  refine gt_X0_32 hc dX0_hoursUntilLost_1 hM hW.o rfl ?_
  refine lv_iload_n hx hb dX0_hoursUntilLost_4 rfl (lv_at hl 1 rfl) ?_
  refine k_V1 hc [.int i] cw_X0_72 rfl dX0_hoursUntilLost_5 (c_X3_get l hlf g _ (a + 11) 6 (fl 8 5) (fl 5) i (hW.row (k := 5) (r := a + 11) (by decide) rfl rfl) (by decide)) (hW.row (k := 5) (r := a + 11) (by decide) rfl rfl).1 hM hS hl.1 rfl rfl ⟨Nat.le_of_ble_eq_true rfl, Nat.le_of_ble_eq_true rfl⟩ ⟨Nat.le_of_ble_eq_true rfl, Nat.le_of_ble_eq_true rfl⟩ (Nat.le_of_ble_eq_true rfl) (fun H locs hM hS => ?_)
  refine lv_istore_n (lv' := [(2, .int (rget 6 (fl 8 5) (fl 5) i)), (0, .ref a), (1, .int i)]) hx hb dX0_hoursUntilLost_8 rfl hl (by decide) rfl (fun ls hl => ?_)
  refine lv_iconst (v := 0) hx hb dX0_hoursUntilLost_9 (by decide) ?_
  refine lv_istore_n (lv' := [(3, .int 0), (2, .int (rget 6 (fl 8 5) (fl 5) i)), (0, .ref a), (1, .int i)]) hx hb dX0_hoursUntilLost_10 rfl hl (by decide) rfl (fun ls hl => ?_)
  have lp_11 : ∀ (D k : Nat) (u : Int32), 49 - k < D → k ≤ 49 → (lostF fl i = hulF (fl 9 2) (fl 9 1) (49 - k) k u) → ∀ (ls : Array Slot) (H : Heap) (locs : List Loc), hR g M H → va_S (gA g) s.heap H locs → lv_has ls 4 [(3, .int (nI k)), (2, .int u), (0, .ref a), (1, .int i)] → W p l e (rmOf 3 0 0) s m [.ref a, .int i].toArray below meth c H locs 0 0 (vx_MQ below (KQ g (.inl (some (.int (lostF fl i)), M))) (KX g (.inl (some (.int (lostF fl i)), M))) [.ref a, .int i].toArray s 0 0 (gA g)) (F0 m 11 ls []) := by
    intro D
    induction D with
    | zero => intro k u hD; exact absurd hD (Nat.not_lt_zero _)
    | succ D ih_11 =>
      intro k u hD hk hq ls H locs hM hS hl
      refine lv_iload_n hx hb dX0_hoursUntilLost_11 rfl (lv_at hl 0 rfl) ?_
      refine lv_bipush (v := 48) hx hb dX0_hoursUntilLost_12 (by decide) ?_
      refine lv_icmp_gt (tgt := 47) hx hb dX0_hoursUntilLost_14 (by decide) (fun c_14 => ?_) (fun c_14 => ?_)
      · skip
        have c_14 := (k_ltL (b := 48) rfl (by decide) (by omega)).mp c_14
        refine lv_iconst (v := (-1)) hx hb dX0_hoursUntilLost_47 (by decide) ?_
        exact k_iret hc hr dX0_hoursUntilLost_48 hM hS (Nat.le_of_ble_eq_true rfl) (Nat.le_of_ble_eq_true rfl) (by rw [hq, show 49 - k = 0 by omega]; rfl)
      · skip
        have c_14 : ¬ 48 < k := fun h => c_14 ((k_ltL (b := 48) rfl (by decide) (by omega)).mpr h)
        refine lv_iload_n hx hb dX0_hoursUntilLost_17 rfl (lv_at hl 1 rfl) ?_
        refine lv_bipush (v := 20) hx hb dX0_hoursUntilLost_18 (by decide) ?_
        refine lv_icmp_lt (tgt := 25) hx hb dX0_hoursUntilLost_20 (by decide) (fun c_20 => ?_) (fun c_20 => ?_)
        · skip
          refine lv_aload_n hx hb dX0_hoursUntilLost_25 rfl (lv_at hl 2 rfl) ?_
          refine lv_iload_n hx hb dX0_hoursUntilLost_26 rfl (lv_at hl 1 rfl) ?_
          refine lv_aload_n hx hb dX0_hoursUntilLost_27 rfl (lv_at hl 2 rfl) ?_
          refine lv_aload_n hx hb dX0_hoursUntilLost_28 rfl (lv_at hl 2 rfl) ?_
          refine gt_X0_45 hc dX0_hoursUntilLost_29 hM hW.o rfl ?_
          refine lv_iload_n hx hb dX0_hoursUntilLost_32 rfl (lv_at hl 0 rfl) ?_
          refine lv_iadd hx hb dX0_hoursUntilLost_33 ?_
          refine k_V1 hc [.int ((fl 9 1) + (nI k))] cw_X0_65 rfl dX0_hoursUntilLost_34 (c_X0_heatAt l hlf g _ a fl ((fl 9 1) + (nI k)) hW) hW.o hM hS hl.1 rfl rfl ⟨Nat.le_of_ble_eq_true rfl, Nat.le_of_ble_eq_true rfl⟩ ⟨Nat.le_of_ble_eq_true rfl, Nat.le_of_ble_eq_true rfl⟩ (Nat.le_of_ble_eq_true rfl) (fun H locs hM hS => ?_)
          refine k_V1 hc [.int u, .int (heatI (fl 9 2) ((fl 9 1) + (nI k)))] cw_X0_135 rfl dX0_hoursUntilLost_37 (c_X0_thirstAfter l hlf g _ a fl u (heatI (fl 9 2) ((fl 9 1) + (nI k))) hW) hW.o hM hS hl.1 rfl rfl ⟨Nat.le_of_ble_eq_true rfl, Nat.le_of_ble_eq_true rfl⟩ ⟨Nat.le_of_ble_eq_true rfl, Nat.le_of_ble_eq_true rfl⟩ (Nat.le_of_ble_eq_true rfl) (fun H locs hM hS => ?_)
          refine lv_istore_n (lv' := [(2, .int (thA u (heatI (fl 9 2) ((fl 9 1) + (nI k))))), (3, .int (nI k)), (0, .ref a), (1, .int i)]) hx hb dX0_hoursUntilLost_40 rfl hl (by decide) rfl (fun ls hl => ?_)
          refine lv_iinc (v := (nI (k + 1))) (lv' := [(3, .int (nI (k + 1))), (2, .int (thA u (heatI (fl 9 2) ((fl 9 1) + (nI k))))), (0, .ref a), (1, .int i)]) hx hb dX0_hoursUntilLost_41 hl (k := 1) rfl (k_inc1 _) (by decide) rfl (fun ls hl => ?_)
          refine lv_goto (tgt := 11) hx hb dX0_hoursUntilLost_44 (by decide) ?_
          exact ih_11 (k + 1) (thA u (heatI (fl 9 2) ((fl 9 1) + (nI k)))) (by omega) (by omega) (by rw [hq, show 49 - k = (49 - (k + 1)) + 1 by omega]; simp only [hulF, c_20, not_false_eq_true, not_true_eq_false, and_true, true_and, and_false, false_and, and_self, ↓reduceIte, or_true, true_or, or_self, or_false, false_or]) ls _ _ hM hS (lv_sub hl [0, 1, 2, 3] rfl)
        · skip
          refine lv_iload_n hx hb dX0_hoursUntilLost_23 rfl (lv_at hl 0 rfl) ?_
          exact k_iret hc hr dX0_hoursUntilLost_24 hM hS (Nat.le_of_ble_eq_true rfl) (Nat.le_of_ble_eq_true rfl) (by rw [hq, show 49 - k = (49 - (k + 1)) + 1 by omega]; simp only [hulF, c_20, not_false_eq_true, not_true_eq_false, and_true, true_and, and_false, false_and, and_self, ↓reduceIte, or_true, true_or, or_self, or_false, false_or])
  have z_3 : 0 = (nI 0) := rfl
  have hl := lv_chg (lv_sub hl [0, 1, 2, 3] rfl) z_3
  have z_2 : (rget 6 (fl 8 5) (fl 5) i) = (gTh fl i) := rfl
  have hl := lv_chg (lv_sub hl [1, 0, 2, 3] rfl) z_2
  exact lp_11 (49 + 1) 0 (gTh fl i) (by omega) (by omega) rfl ls _ _ hM hS (lv_sub hl [1, 0, 2, 3] rfl)
set_option maxHeartbeats 4000000 in
set_option maxRecDepth 100000 in
theorem c_X0_stray (l : Launch) (hlf : l.stackTraces = false) (g : GC) (M : HM) (a : Nat) (fl : FL) (i : Int32) (hW : FlatAt g M a fl) : KM g l yX0_stray cX0_stray 2 none 3 0 0 [.ref a, .int i] M (.inl (none, (putF g M a (strayF fl i)))) := by
  refine k_meth hlf (by decide) (Nat.le_of_ble_eq_true rfl) fun p e s m below meth c ls hc hr hnx hM hS hl => ?_
  have hc : Cx g p l s m [.ref a, .int i].toArray meth c cX0_stray 2 RX0 := hc
  have hx := hc.1
  have hb := hc.2.1
  have hl : lv_has ls 2 [(0, .ref a), (1, .int i)] := hl
  refine lv_aload_n hx hb dX0_stray_0 rfl (lv_at hl 0 rfl) ?_
  refine gt_X0_29 hc dX0_stray_1 hM hW.o rfl ?_
  refine lv_iload_n hx hb dX0_stray_4 rfl (lv_at hl 1 rfl) ?_
  refine lv_aload_n hx hb dX0_stray_5 rfl (lv_at hl 0 rfl) ?_
  refine gt_X0_29 hc dX0_stray_6 hM hW.o rfl ?_
  refine lv_iload_n hx hb dX0_stray_9 rfl (lv_at hl 1 rfl) ?_
  refine k_V1 hc [.int i] cw_X0_72 rfl dX0_stray_10 (c_X3_get l hlf g _ (a + 9) 6 (fl 8 4) (fl 4) i (hW.row (k := 4) (r := a + 9) (by decide) rfl rfl) (by decide)) (hW.row (k := 4) (r := a + 9) (by decide) rfl rfl).1 hM hS hl.1 rfl rfl ⟨Nat.le_of_ble_eq_true rfl, Nat.le_of_ble_eq_true rfl⟩ ⟨Nat.le_of_ble_eq_true rfl, Nat.le_of_ble_eq_true rfl⟩ (Nat.le_of_ble_eq_true rfl) (fun H locs hM hS => ?_)
  refine lv_iload_n hx hb dX0_stray_13 rfl (lv_at hl 1 rfl) ?_
  refine lv_iconst (v := 2) hx hb dX0_stray_14 (by decide) ?_
  refine lv_irem hx hb dX0_stray_15 (by decide) ?_
  refine lv_if_ne (tgt := 23) hx hb dX0_stray_16 (by decide) (fun c_16 => ?_) (fun c_16 => ?_)
  · skip
    refine lv_bipush (v := (-3)) hx hb dX0_stray_23 (by decide) ?_
    refine lv_iadd hx hb dX0_stray_25 ?_
    refine k_SN1 hc [.int ((rget 6 (fl 8 4) (fl 4) i) + (-3))] cw_X0_97 dX0_stray_26 (c_X5_nearestPlace l hlf g _ ((rget 6 (fl 8 4) (fl 4) i) + (-3))) hM hS hl.1 rfl rfl ⟨Nat.le_of_ble_eq_true rfl, Nat.le_of_ble_eq_true rfl⟩ ⟨Nat.le_of_ble_eq_true rfl, Nat.le_of_ble_eq_true rfl⟩ (Nat.le_of_ble_eq_true rfl) (fun H locs hM hS => ?_)
    refine k_V0 hc [.int i, .int (nearPl ((rget 6 (fl 8 4) (fl 4) i) + (-3)))] cw_X0_116 rfl dX0_stray_29 (c_X3_set l hlf g _ (a + 9) 6 (fl 8 4) (fl 4) i (nearPl ((rget 6 (fl 8 4) (fl 4) i) + (-3))) (hW.row (k := 4) (r := a + 9) (by decide) rfl rfl) (by decide)) (hW.row (k := 4) (r := a + 9) (by decide) rfl rfl).1 hM hS hl.1 rfl rfl ⟨Nat.le_of_ble_eq_true rfl, Nat.le_of_ble_eq_true rfl⟩ ⟨Nat.le_of_ble_eq_true rfl, Nat.le_of_ble_eq_true rfl⟩ (Nat.le_of_ble_eq_true rfl) (fun H locs hM hS => ?_)
    have hM := hR.eq hM (putF_rowf hW (k := 4) (by decide) rfl rfl)
    have hW := FlatAt.put (g := g) (M := M) (a := a) (fl := (up1 fl 4 (rset 6 (fl 8 4) (fl 4) i (nearPl ((rget 6 (fl 8 4) (fl 4) i) + (-3))))))
    exact k_vret hc hr dX0_stray_32 hM hS (Nat.le_of_ble_eq_true rfl) (Nat.le_of_ble_eq_true rfl) (by simp only [strayF, eq_false c_16, not_false_eq_true, not_true_eq_false, and_true, true_and, and_false, false_and, and_self, ↓reduceIte, or_true, true_or, or_self, or_false, false_or])
  · skip
    refine lv_iconst (v := 3) hx hb dX0_stray_19 (by decide) ?_
    refine lv_goto (tgt := 25) hx hb dX0_stray_20 (by decide) ?_
    refine lv_iadd hx hb dX0_stray_25 ?_
    refine k_SN1 hc [.int ((rget 6 (fl 8 4) (fl 4) i) + 3)] cw_X0_97 dX0_stray_26 (c_X5_nearestPlace l hlf g _ ((rget 6 (fl 8 4) (fl 4) i) + 3)) hM hS hl.1 rfl rfl ⟨Nat.le_of_ble_eq_true rfl, Nat.le_of_ble_eq_true rfl⟩ ⟨Nat.le_of_ble_eq_true rfl, Nat.le_of_ble_eq_true rfl⟩ (Nat.le_of_ble_eq_true rfl) (fun H locs hM hS => ?_)
    refine k_V0 hc [.int i, .int (nearPl ((rget 6 (fl 8 4) (fl 4) i) + 3))] cw_X0_116 rfl dX0_stray_29 (c_X3_set l hlf g _ (a + 9) 6 (fl 8 4) (fl 4) i (nearPl ((rget 6 (fl 8 4) (fl 4) i) + 3)) (hW.row (k := 4) (r := a + 9) (by decide) rfl rfl) (by decide)) (hW.row (k := 4) (r := a + 9) (by decide) rfl rfl).1 hM hS hl.1 rfl rfl ⟨Nat.le_of_ble_eq_true rfl, Nat.le_of_ble_eq_true rfl⟩ ⟨Nat.le_of_ble_eq_true rfl, Nat.le_of_ble_eq_true rfl⟩ (Nat.le_of_ble_eq_true rfl) (fun H locs hM hS => ?_)
    have hM := hR.eq hM (putF_rowf hW (k := 4) (by decide) rfl rfl)
    have hW := FlatAt.put (g := g) (M := M) (a := a) (fl := (up1 fl 4 (rset 6 (fl 8 4) (fl 4) i (nearPl ((rget 6 (fl 8 4) (fl 4) i) + 3)))))
    exact k_vret hc hr dX0_stray_32 hM hS (Nat.le_of_ble_eq_true rfl) (Nat.le_of_ble_eq_true rfl) (by simp only [strayF, eq_true c_16, not_false_eq_true, not_true_eq_false, and_true, true_and, and_false, false_and, and_self, ↓reduceIte, or_true, true_or, or_self, or_false, false_or])
set_option maxHeartbeats 4000000 in
set_option maxRecDepth 100000 in
theorem c_X0_passHour (l : Launch) (hlf : l.stackTraces = false) (g : GC) (M : HM) (a : Nat) (fl : FL) (hW : FlatAt g M a fl) : KM g l yX0_passHour cX0_passHour 3 none 4 0 0 [.ref a] M (.inl (none, (putF g M a (phF fl)))) := by
  refine k_meth hlf (by decide) (Nat.le_of_ble_eq_true rfl) fun p e s m below meth c ls hc hr hnx hM hS hl => ?_
  have hc : Cx g p l s m [.ref a].toArray meth c cX0_passHour 3 RX0 := hc
  have hx := hc.1
  have hb := hc.2.1
  have hl : lv_has ls 3 [(0, .ref a)] := hl
  refine lv_aload_n hx hb dX0_passHour_0 rfl (lv_at hl 0 rfl) ?_
  refine k_V1 hc [] cw_X0_68 rfl dX0_passHour_1 (c_X0_heatNow l hlf g _ a fl hW) hW.o hM hS hl.1 rfl rfl ⟨Nat.le_of_ble_eq_true rfl, Nat.le_of_ble_eq_true rfl⟩ ⟨Nat.le_of_ble_eq_true rfl, Nat.le_of_ble_eq_true rfl⟩ (Nat.le_of_ble_eq_true rfl) (fun H locs hM hS => ?_)
  refine lv_istore_n (lv' := [(1, .int (hNow fl)), (0, .ref a)]) hx hb dX0_passHour_4 rfl hl (by decide) rfl (fun ls hl => ?_)
  refine lv_iconst (v := 0) hx hb dX0_passHour_5 (by decide) ?_
  refine lv_istore_n (lv' := [(2, .int 0), (1, .int (hNow fl)), (0, .ref a)]) hx hb dX0_passHour_6 rfl hl (by decide) rfl (fun ls hl => ?_)
  have lp_7 : ∀ (D k : Nat), ((fl 8 4).toNatClampNeg) - k < D → k ≤ (fl 8 4).toNatClampNeg → ∀ (ls : Array Slot) (H : Heap) (locs : List Loc), hR g (putF g M a (itr (phS (hNow fl)) fl k)) H → va_S (gA g) s.heap H locs → lv_has ls 3 [(2, .int (nI k)), (1, .int (hNow fl)), (0, .ref a)] → W p l e (rmOf 4 0 0) s m [.ref a].toArray below meth c H locs 0 0 (vx_MQ below (KQ g (.inl (none, (putF g M a (phF fl))))) (KX g (.inl (none, (putF g M a (phF fl))))) [.ref a].toArray s 0 0 (gA g)) (F0 m 7 ls []) := by
    intro D
    induction D with
    | zero => intro k hD; exact absurd hD (Nat.not_lt_zero _)
    | succ D ih_7 =>
      intro k hD hk ls H locs hM hS hl
      have hW := FlatAt.put (g := g) (M := M) (a := a) (fl := (itr (phS (hNow fl)) fl k))
      refine lv_iload_n hx hb dX0_passHour_7 rfl (lv_at hl 0 rfl) ?_
      refine lv_aload_n hx hb dX0_passHour_8 rfl (lv_at hl 2 rfl) ?_
      refine gt_X0_29 hc dX0_passHour_9 hM hW.o rfl ?_
      refine k_V1 hc [] cw_X0_104 rfl dX0_passHour_12 (c_X3_size l hlf g _ (a + 9) 6 ((itr (phS (hNow fl)) fl k) 8 4) ((itr (phS (hNow fl)) fl k) 4) (hW.row (k := 4) (r := a + 9) (by decide) rfl rfl)) (hW.row (k := 4) (r := a + 9) (by decide) rfl rfl).1 hM hS hl.1 rfl rfl ⟨Nat.le_of_ble_eq_true rfl, Nat.le_of_ble_eq_true rfl⟩ ⟨Nat.le_of_ble_eq_true rfl, Nat.le_of_ble_eq_true rfl⟩ (Nat.le_of_ble_eq_true rfl) (fun H locs hM hS => ?_)
      refine lv_icmp_ge (tgt := 64) hx hb dX0_passHour_15 (by decide) (fun c_15 => ?_) (fun c_15 => ?_)
      · skip
        rw [ph_8] at c_15
        have c_15 := (k_le (by have := k_clamp_lt (fl 8 4); omega)).mp c_15
        refine lv_aload_n hx hb dX0_passHour_64 rfl (lv_at hl 2 rfl) ?_
        refine lv_dup hx hb dX0_passHour_65 rfl ?_
        refine gt_X0_45 hc dX0_passHour_66 hM hW.o rfl ?_
        refine lv_iconst (v := 1) hx hb dX0_passHour_69 (by decide) ?_
        refine lv_iadd hx hb dX0_passHour_70 ?_
        refine pt_X0_45 hc dX0_passHour_71 hM hS hW.o rfl rfl (Nat.le_of_ble_eq_true rfl) (fun H locs hM hS => ?_)
        have hM := hR.eq hM (putF_fld hW 1 rfl)
        have hM := hR.eq hM putF_putF
        have hW := FlatAt.put (g := g) (M := M) (a := a) (fl := (up2 (itr (phS (hNow fl)) fl k) 9 1 (((itr (phS (hNow fl)) fl k) 9 1) + 1)))
        exact k_vret hc hr dX0_passHour_74 hM hS (Nat.le_of_ble_eq_true rfl) (Nat.le_of_ble_eq_true rfl) (by rw [show k = (fl 8 4).toNatClampNeg by omega]; rfl)
      · skip
        rw [ph_8] at c_15
        have c_15 : ¬ (fl 8 4).toNatClampNeg ≤ k := fun h => c_15 ((k_le (by have := k_clamp_lt (fl 8 4); omega)).mpr h)
        refine lv_aload_n hx hb dX0_passHour_18 rfl (lv_at hl 2 rfl) ?_
        refine gt_X0_32 hc dX0_passHour_19 hM hW.o rfl ?_
        refine lv_iload_n hx hb dX0_passHour_22 rfl (lv_at hl 0 rfl) ?_
        refine lv_aload_n hx hb dX0_passHour_23 rfl (lv_at hl 2 rfl) ?_
        refine lv_aload_n hx hb dX0_passHour_24 rfl (lv_at hl 2 rfl) ?_
        refine gt_X0_32 hc dX0_passHour_25 hM hW.o rfl ?_
        refine lv_iload_n hx hb dX0_passHour_28 rfl (lv_at hl 0 rfl) ?_
        refine k_V1 hc [.int (nI k)] cw_X0_72 rfl dX0_passHour_29 (c_X3_get l hlf g _ (a + 11) 6 ((itr (phS (hNow fl)) fl k) 8 5) ((itr (phS (hNow fl)) fl k) 5) (nI k) (hW.row (k := 5) (r := a + 11) (by decide) rfl rfl) (by decide)) (hW.row (k := 5) (r := a + 11) (by decide) rfl rfl).1 hM hS hl.1 rfl rfl ⟨Nat.le_of_ble_eq_true rfl, Nat.le_of_ble_eq_true rfl⟩ ⟨Nat.le_of_ble_eq_true rfl, Nat.le_of_ble_eq_true rfl⟩ (Nat.le_of_ble_eq_true rfl) (fun H locs hM hS => ?_)
        refine lv_iload_n hx hb dX0_passHour_32 rfl (lv_at hl 1 rfl) ?_
        refine k_V1 hc [.int (rget 6 ((itr (phS (hNow fl)) fl k) 8 5) ((itr (phS (hNow fl)) fl k) 5) (nI k)), .int (hNow fl)] cw_X0_135 rfl dX0_passHour_33 (c_X0_thirstAfter l hlf g _ a (itr (phS (hNow fl)) fl k) (rget 6 ((itr (phS (hNow fl)) fl k) 8 5) ((itr (phS (hNow fl)) fl k) 5) (nI k)) (hNow fl) hW) hW.o hM hS hl.1 rfl rfl ⟨Nat.le_of_ble_eq_true rfl, Nat.le_of_ble_eq_true rfl⟩ ⟨Nat.le_of_ble_eq_true rfl, Nat.le_of_ble_eq_true rfl⟩ (Nat.le_of_ble_eq_true rfl) (fun H locs hM hS => ?_)
        refine k_V0 hc [.int (nI k), .int (thA (rget 6 ((itr (phS (hNow fl)) fl k) 8 5) ((itr (phS (hNow fl)) fl k) 5) (nI k)) (hNow fl))] cw_X0_116 rfl dX0_passHour_36 (c_X3_set l hlf g _ (a + 11) 6 ((itr (phS (hNow fl)) fl k) 8 5) ((itr (phS (hNow fl)) fl k) 5) (nI k) (thA (rget 6 ((itr (phS (hNow fl)) fl k) 8 5) ((itr (phS (hNow fl)) fl k) 5) (nI k)) (hNow fl)) (hW.row (k := 5) (r := a + 11) (by decide) rfl rfl) (by decide)) (hW.row (k := 5) (r := a + 11) (by decide) rfl rfl).1 hM hS hl.1 rfl rfl ⟨Nat.le_of_ble_eq_true rfl, Nat.le_of_ble_eq_true rfl⟩ ⟨Nat.le_of_ble_eq_true rfl, Nat.le_of_ble_eq_true rfl⟩ (Nat.le_of_ble_eq_true rfl) (fun H locs hM hS => ?_)
        have hM := hR.eq hM (putF_rowf hW (k := 5) (by decide) rfl rfl)
        have hM := hR.eq hM putF_putF
        have hW := FlatAt.put (g := g) (M := M) (a := a) (fl := (up1 (itr (phS (hNow fl)) fl k) 5 (rset 6 ((itr (phS (hNow fl)) fl k) 8 5) ((itr (phS (hNow fl)) fl k) 5) (nI k) (thA (rget 6 ((itr (phS (hNow fl)) fl k) 8 5) ((itr (phS (hNow fl)) fl k) 5) (nI k)) (hNow fl)))))
        refine lv_iload_n hx hb dX0_passHour_39 rfl (lv_at hl 1 rfl) ?_
        refine lv_bipush (v := 6) hx hb dX0_passHour_40 (by decide) ?_
        refine lv_icmp_lt (tgt := 58) hx hb dX0_passHour_42 (by decide) (fun c_42 => ?_) (fun c_42 => ?_)
        · skip
          refine lv_iinc (v := (nI (k + 1))) (lv' := [(2, .int (nI (k + 1))), (1, .int (hNow fl)), (0, .ref a)]) hx hb dX0_passHour_58 hl (k := 0) rfl (k_inc1 _) (by decide) rfl (fun ls hl => ?_)
          refine lv_goto (tgt := 7) hx hb dX0_passHour_61 (by decide) ?_
          have hM : hR g (putF g M a (itr (phS (hNow fl)) fl (k + 1))) _ := hR.eq hM (congrArg (putF g M a) (by rw [itr_s]; simp only [phS, thF, strayF, eq_false c_15, eq_true c_42, not_false_eq_true, not_true_eq_false, and_true, true_and, and_false, false_and, and_self, ↓reduceIte, or_true, true_or, or_self, or_false, false_or]))
          exact ih_7 (k + 1) (by omega) (by omega) ls _ _ hM hS (lv_sub hl [0, 1, 2] rfl)
        · skip
          refine lv_aload_n hx hb dX0_passHour_45 rfl (lv_at hl 2 rfl) ?_
          refine lv_iload_n hx hb dX0_passHour_46 rfl (lv_at hl 0 rfl) ?_
          refine k_V1 hc [.int (nI k)] cw_X0_123 rfl dX0_passHour_47 (c_X0_isRoaming l hlf g _ a (up1 (itr (phS (hNow fl)) fl k) 5 (rset 6 ((itr (phS (hNow fl)) fl k) 8 5) ((itr (phS (hNow fl)) fl k) 5) (nI k) (thA (rget 6 ((itr (phS (hNow fl)) fl k) 8 5) ((itr (phS (hNow fl)) fl k) 5) (nI k)) (hNow fl)))) (nI k) hW) hW.o hM hS hl.1 rfl rfl ⟨Nat.le_of_ble_eq_true rfl, Nat.le_of_ble_eq_true rfl⟩ ⟨Nat.le_of_ble_eq_true rfl, Nat.le_of_ble_eq_true rfl⟩ (Nat.le_of_ble_eq_true rfl) (fun H locs hM hS => ?_)
          refine lv_if_eq (tgt := 58) hx hb dX0_passHour_50 (by decide) (fun c_50 => ?_) (fun c_50 => ?_)
          · skip
            have c_50 := bI_eq.mp c_50
            refine lv_iinc (v := (nI (k + 1))) (lv' := [(2, .int (nI (k + 1))), (1, .int (hNow fl)), (0, .ref a)]) hx hb dX0_passHour_58 hl (k := 0) rfl (k_inc1 _) (by decide) rfl (fun ls hl => ?_)
            refine lv_goto (tgt := 7) hx hb dX0_passHour_61 (by decide) ?_
            have hM : hR g (putF g M a (itr (phS (hNow fl)) fl (k + 1))) _ := hR.eq hM (congrArg (putF g M a) (by rw [itr_s]; simp only [phS, thF, strayF, eq_false c_15, eq_false c_42, eq_false c_50, not_false_eq_true, not_true_eq_false, and_true, true_and, and_false, false_and, and_self, ↓reduceIte, or_true, true_or, or_self, or_false, false_or]))
            exact ih_7 (k + 1) (by omega) (by omega) ls _ _ hM hS (lv_sub hl [0, 1, 2] rfl)
          · skip
            have c_50 := bI_ne.mp c_50
            refine lv_aload_n hx hb dX0_passHour_53 rfl (lv_at hl 2 rfl) ?_
            refine lv_iload_n hx hb dX0_passHour_54 rfl (lv_at hl 0 rfl) ?_
            refine k_V0 hc [.int (nI k)] cw_X0_138 rfl dX0_passHour_55 (c_X0_stray l hlf g _ a (up1 (itr (phS (hNow fl)) fl k) 5 (rset 6 ((itr (phS (hNow fl)) fl k) 8 5) ((itr (phS (hNow fl)) fl k) 5) (nI k) (thA (rget 6 ((itr (phS (hNow fl)) fl k) 8 5) ((itr (phS (hNow fl)) fl k) 5) (nI k)) (hNow fl)))) (nI k) hW) hW.o hM hS hl.1 rfl rfl ⟨Nat.le_of_ble_eq_true rfl, Nat.le_of_ble_eq_true rfl⟩ ⟨Nat.le_of_ble_eq_true rfl, Nat.le_of_ble_eq_true rfl⟩ (Nat.le_of_ble_eq_true rfl) (fun H locs hM hS => ?_)
            have hM := hR.eq hM putF_putF
            have hW := FlatAt.put (g := g) (M := M) (a := a) (fl := (strayF (up1 (itr (phS (hNow fl)) fl k) 5 (rset 6 ((itr (phS (hNow fl)) fl k) 8 5) ((itr (phS (hNow fl)) fl k) 5) (nI k) (thA (rget 6 ((itr (phS (hNow fl)) fl k) 8 5) ((itr (phS (hNow fl)) fl k) 5) (nI k)) (hNow fl)))) (nI k)))
            refine lv_iinc (v := (nI (k + 1))) (lv' := [(2, .int (nI (k + 1))), (1, .int (hNow fl)), (0, .ref a)]) hx hb dX0_passHour_58 hl (k := 0) rfl (k_inc1 _) (by decide) rfl (fun ls hl => ?_)
            refine lv_goto (tgt := 7) hx hb dX0_passHour_61 (by decide) ?_
            have hM : hR g (putF g M a (itr (phS (hNow fl)) fl (k + 1))) _ := hR.eq hM (congrArg (putF g M a) (by rw [itr_s]; simp only [phS, thF, strayF, eq_false c_15, eq_false c_42, eq_true c_50, not_false_eq_true, not_true_eq_false, and_true, true_and, and_false, false_and, and_self, ↓reduceIte, or_true, true_or, or_self, or_false, false_or]))
            exact ih_7 (k + 1) (by omega) (by omega) ls _ _ hM hS (lv_sub hl [0, 1, 2] rfl)
  have z_2 : 0 = (nI 0) := rfl
  have hl := lv_chg (lv_sub hl [0, 1, 2] rfl) z_2
  have hM : hR g (putF g M a (itr (phS (hNow fl)) fl 0)) _ := hR.eq hM (putF_same hW).symm
  exact lp_7 ((fl 8 4).toNatClampNeg + 1) 0 (by omega) (by omega) ls _ _ hM hS (lv_sub hl [0, 1, 2] rfl)
