/-! THE START: what the machine is at the law's entry, as the rows have it -/
abbrev pre1 : Cond := Jvm.Cond.and given_1 narrow_1
theorem st9_sub {L M : List Cond} (is : List Nat) (h : (decide (L = is.filterMap (fun i => M[i]?))) = true) : ∀ w ∈ L, w ∈ M := by
  intro w hw
  rw [of_decide_eq_true h] at hw
  obtain ⟨i, -, hi⟩ := List.mem_filterMap.mp hw
  exact List.mem_of_getElem? hi
theorem st9_nk : ∀ w ∈ lw_nk, w ∈ lw_tbl := st9_sub [192, 218, 494, 501, 801, 330, 694, 732, 761, 895, 1111, 332, 334, 336] (by decide +kernel)
theorem st9_sr : ∀ w ∈ lw_tx.map (fun x => Cond.stringRef x.1 x.2.1 x.2.2), w ∈ lw_tbl := st9_sub [943, 944, 945, 946, 947, 948, 949, 950, 1077, 1507, 373, 701, 716, 729, 739, 758, 768, 830, 842, 850, 863, 871, 880, 902, 1028, 1047, 1048, 1091, 1130, 1147, 1155, 1168] (by decide +kernel)
theorem st9_ex : ∀ w ∈ lw_tx.map (fun x => Cond.exactly (.string x.1 x.2.1) "java/lang/String"), w ∈ flatC pre1 := st9_sub [488, 498, 506, 512, 518, 524, 530, 536, 617, 741, 88, 117, 143, 168, 194, 223, 249, 281, 319, 349, 379, 412, 438, 461, 540, 564, 594, 626, 656, 676, 695, 720] (by decide +kernel)
theorem st9_nc : ∀ w ∈ lw_nc.map (fun q => Cond.not (.castable q.1 q.2)), w ∈ flatC pre1 := st9_sub [32, 33, 46, 43] (by decide +kernel)
def st9_st : List Cond := [.isRef (.static "java/lang/Throwable" "UNASSIGNED_STACK" "[Ljava/lang/StackTraceElement;"), .isRef (.static "java/lang/Throwable" "SUPPRESSED_SENTINEL" "Ljava/util/List;"), .eq (.static "java/lang/String" "COMPACT_STRINGS" "Z") (.int 1), .isRef (.static "jdk/internal/util/Preconditions" "SIOOBE_FORMATTER" "Ljava/util/function/BiFunction;")]
theorem st9_stin : ∀ w ∈ st9_st, w ∈ flatC pre1 := st9_sub [4, 5, 6, 7] (by decide +kernel)
def st9_sl : List Cond := [.laysStatic "java/lang/Throwable" "UNASSIGNED_STACK" "[Ljava/lang/StackTraceElement;", .laysStatic "java/lang/Throwable" "SUPPRESSED_SENTINEL" "Ljava/util/List;", .laysStatic "java/lang/String" "COMPACT_STRINGS" "Z", .laysStatic "jdk/internal/util/Preconditions" "SIOOBE_FORMATTER" "Ljava/util/function/BiFunction;", .initialized "java/lang/Throwable", .initialized "java/lang/String", .initialized "jdk/internal/util/Preconditions", .arrayOver (.object "MirageSurvey$Flat")]
theorem st9_slin : ∀ w ∈ st9_sl, w ∈ lw_tbl := st9_sub [355, 357, 960, 976, 73, 79, 84, 178] (by decide +kernel)
/-- the words of a text that is read -/
def st9_sw (own : String) (k : Nat) (bs : List Int32) : List Cond :=
  [.exactly (.string own k) "java/lang/String", .eq (.field (.string own k) "java/lang/String" "coder" "B") (.int 0), .arrayOf (.field (.string own k) "java/lang/String" "value" "[B") .byte, .eq (.length (.field (.string own k) "java/lang/String" "value" "[B")) (.int (Int32.ofNat bs.length))] ++
  (List.range bs.length).map (fun j => .eq (.elem (.field (.string own k) "java/lang/String" "value" "[B") (.int (Int32.ofNat j))) (.int (bs.getD j 0)))
theorem st9_swin : ∀ w ∈ (lw_tx.zip lw_by).flatMap (fun y => st9_sw y.1.1 y.1.2.1 y.2), w ∈ flatC pre1 := st9_sub [488, 489, 490, 491, 492, 493, 494, 495, 496, 497, 498, 499, 500, 501, 502, 503, 504, 505, 506, 507, 508, 509, 510, 511, 512, 513, 514, 515, 516, 517, 518, 519, 520, 521, 522, 523, 524, 525, 526, 527, 528, 529, 530, 531, 532, 533, 534, 535, 536, 537, 538, 539, 617, 618, 619, 620, 621, 622, 623, 624, 625, 741, 742, 743, 744, 745, 746, 747, 748, 749] (by decide +kernel)
theorem st9_string {args : Array Value} {s : State} {A : Nat → Prop} {own : String} {k : Nat} {bs : List Int32} (hl : bs.length < 2 ^ 31) (h : ∀ w ∈ st9_sw own k bs, w.before args s = true) (hA : ∀ a : Nat, a < s.heap.size → ¬ A a) :
    ∃ q : Nat × Nat, (Term.string own k).eval args s none [] s = some (.ref q.1) ∧ vk_S 1 [bs.length] [bs] (fun _ => q.1) (fun _ => q.2) A s s.heap := by
  obtain ⟨adK, adV, hS, he⟩ := vk_Sof (args := args) (s := s) (N := 1) (tm := fun _ => .string own k) (len := [bs.length]) (byt := [bs]) (A := A) (fun i hi => by obtain rfl : i = 0 := (by omega); exact hl)
    (fun i hi => h _ (by simp [st9_sw])) (fun i hi => h _ (by simp [st9_sw])) (fun i hi => h _ (by simp [st9_sw])) (fun i hi => by obtain rfl : i = 0 := (by omega); exact h _ (by simp [st9_sw]))
    (fun i hi j hj => by
      obtain rfl : i = 0 := by omega
      refine h _ (List.mem_append_right _ (List.mem_map.mpr ⟨j, List.mem_range.mpr hj, rfl⟩))) (fun i j hi hj hij => absurd (show i = j by omega) hij) hA
  refine ⟨(adK 0, adV 0), he 0 (by decide), fun i hi => ?_, fun i j hi hj _ => by omega⟩
  obtain rfl : i = 0 := by omega
  exact hS.1 0 (by decide)
theorem st9_texts {args : Array Value} {s : State} {A : Nat → Prop} (hts : ∀ w ∈ lw_tbl, w.before args s = true) (hgv : pre1.before args s = true) (hA : ∀ a : Nat, a < s.heap.size → ¬ A a) :
    ∃ ad : Nat → Nat × Nat, (∀ (i : Nat) (x : String × Nat × String), lw_tx[i]? = some x → vk_R x.1 x.2.1 x.2.2 (ad i).1 s) ∧ (∀ (i : Nat) (b : List Int32), lw_by[i]? = some b → vk_S 1 [b.length] [b] (fun _ => (ad i).1) (fun _ => (ad i).2) A s s.heap) := by
  have hf := flat_of_before _ hgv
  have h0 : ∀ i : Nat, ∃ q : Nat × Nat, (∀ x : String × Nat × String, lw_tx[i]? = some x → vk_R x.1 x.2.1 x.2.2 q.1 s) ∧ (∀ b : List Int32, lw_by[i]? = some b → vk_S 1 [b.length] [b] (fun _ => q.1) (fun _ => q.2) A s s.heap) := by
    intro i
    cases hx : lw_tx[i]? with
    | none =>
      refine ⟨(0, 0), fun x h => (by cases h), fun b hb => ?_⟩
      have h1 : 32 ≤ i := List.getElem?_eq_none_iff.mp hx
      have h2 : lw_by[i]? = none := List.getElem?_eq_none_iff.mpr (Nat.le_trans (by decide) h1)
      rw [h2] at hb; cases hb
    | some x =>
      have hsr : (Cond.stringRef x.1 x.2.1 x.2.2).before args s = true := hts _ (st9_sr _ (List.mem_map.mpr ⟨x, List.mem_of_getElem? hx, rfl⟩))
      cases hb : lw_by[i]? with
      | none =>
        obtain ⟨a, c, cell, k, q1, -⟩ := Cond.exactly_spec (args := args) (first := s) (o := none) (s := s) (idx := []) (hf _ (st9_ex _ (List.mem_map.mpr ⟨x, List.mem_of_getElem? hx, rfl⟩)))
        exact ⟨(a, 0), fun y h => (by cases h; exact vk_R.of hsr q1), fun b h => (by cases h)⟩
      | some b =>
        have hz : (x, b) ∈ lw_tx.zip lw_by := List.mem_of_getElem? (i := i) (by rw [List.getElem?_zip_eq_some]; exact ⟨hx, hb⟩)
        have hbl : b.length < 2 ^ 31 := by
          have h9 : ∀ b ∈ lw_by, b.length < 2 ^ 31 := by decide
          exact h9 b (List.mem_of_getElem? hb)
        obtain ⟨q, q1, q2⟩ := st9_string (own := x.1) (k := x.2.1) (bs := b) hbl (fun w hw => hf w (st9_swin w (List.mem_flatMap.mpr ⟨(x, b), hz, hw⟩))) hA
        exact ⟨q, fun y h => (by cases h; exact vk_R.of hsr q1), fun b' h => by cases h; exact q2⟩
  obtain ⟨ad, had⟩ := Classical.axiomOfChoice h0
  exact ⟨ad, fun i x h => (had i).1 x h, fun i b h => (had i).2 b h⟩
theorem in_Jx00060 : ∀ w ∈ u_ws RJx00060 TJx00060 6, w ∈ lw_all := by
  have h : (u_ws RJx00060 TJx00060 6).all (fun w => decide (w ∈ lw_tbl) && goodWord w) = true := by decide +kernel
  intro w hw
  have h1 := List.all_eq_true.mp h w hw
  simp only [Bool.and_eq_true, decide_eq_true_eq] at h1
  exact lw_in h1.1 h1.2
theorem st9_classes {args : Array Value} {s : State} (hts : ∀ w ∈ lw_all, w.before args s = true) : ∃ D : va_G, ∀ (c : Nat) (q : vw_C), vwCl[c]? = some q → u_Kn s q.1 q.2.1 q.2.2 (D.1 c) (D.2 c) := by
  have h0 : ∀ c : Nat, ∃ d : ClassId × (Nat → Nat), ∀ q : vw_C, vwCl[c]? = some q → u_Kn s q.1 q.2.1 q.2.2 d.1 d.2 := by
    intro c
    have h1 : ∀ q ∈ vwCl, ∃ d : ClassId × (Nat → Nat), u_Kn s q.1 q.2.1 q.2.2 d.1 d.2 := by
      intro q hq
      simp only [vwCl, List.mem_cons, List.not_mem_nil, or_false] at hq
      rcases hq with rfl | rfl | rfl | rfl | rfl | rfl | rfl | rfl | rfl
      · obtain ⟨a, b, h⟩ := u_known hts in_J0 (hts _ qm_String); exact ⟨(a, b), h⟩
      · obtain ⟨a, b, h⟩ := u_known hts in_Jx00060 (hts _ qm_ArrayIndexOutOfBoundsException); exact ⟨(a, b), h⟩
      · obtain ⟨a, b, h⟩ := u_known hts in_X0 (hts _ qm_X0); exact ⟨(a, b), h⟩
      · obtain ⟨a, b, h⟩ := u_known hts in_X1 (hts _ qm_X1); exact ⟨(a, b), h⟩
      · obtain ⟨a, b, h⟩ := u_known hts in_X2 (hts _ qm_X2); exact ⟨(a, b), h⟩
      · obtain ⟨a, b, h⟩ := u_known hts in_X3 (hts _ qm_X3); exact ⟨(a, b), h⟩
      · obtain ⟨a, b, h⟩ := u_known hts in_X4 (hts _ qm_X4); exact ⟨(a, b), h⟩
      · obtain ⟨a, b, h⟩ := u_known hts in_X5 (hts _ qm_X5); exact ⟨(a, b), h⟩
      · obtain ⟨a, b, h⟩ := u_known hts in_X6 (hts _ qm_X6); exact ⟨(a, b), h⟩
    cases hc : vwCl[c]? with
    | none => exact ⟨(0, fun _ => 0), fun q h => by cases h⟩
    | some q =>
      obtain ⟨d, hd⟩ := h1 q (List.mem_of_getElem? hc)
      exact ⟨d, fun q' h => by cases h; exact hd⟩
  obtain ⟨ad, had⟩ := Classical.axiomOfChoice h0
  exact ⟨(fun c => (ad c).1, fun c => (ad c).2), fun c q h => had c q h⟩
theorem st9_prim {args : Array Value} {s : State} {ty : FieldType} (hp : ∀ C, ty ≠ .object C) (h : (Cond.arrayClass ty).before args s = true) : ∃ cA : ClassId, ArrOfT s cA ty ∧ va_RA s cA ty := by
  obtain ⟨cA, kA, comp, h1, h2, h3⟩ := Cond.arrayClass_spec h
  refine ⟨cA, fun n z => ⟨fun k h => (by cases h), kA, h2, comp, h3⟩, ?_⟩
  cases ty with
  | object C => exact absurd rfl (hp C)
  | _ => exact h1
theorem st9_flat {args : Array Value} {s : State} {C : String} (h : (Cond.arrayOver (.object C)).before args s = true) : ∃ cA : ClassId, ArrOfT s cA (.object C) ∧ va_RA s cA (.object C) := by
  obtain ⟨comp, cA, kA, h1, -, h2, h3, h4⟩ := Cond.arrayOver_spec h
  exact ⟨cA, fun n z => ⟨fun k h => (by cases h), kA, h2, comp, h3⟩, kA, comp, h2, h3, h1, h4⟩
theorem st9_start {args : Array Value} {s : State} (hts : ∀ w ∈ lw_tbl, w.before args s = true) (hgv : pre1.before args s = true) : ∃ g : GC, gB g = s.heap.size ∧ hE g s := by
  have hta : ∀ w ∈ lw_all, w.before args s = true := fun w hw => hts w (List.mem_filter.mp hw).1
  have hf := flat_of_before _ hgv
  have hA : ∀ a : Nat, a < s.heap.size → ¬ (fun q => s.heap.size ≤ q) a := fun a h => Nat.not_le.mpr h
  obtain ⟨D, hD⟩ := st9_classes hta
  obtain ⟨cI, i1, i2⟩ := st9_prim (ty := .int) (fun C h => by cases h) (hta _ qa_int)
  obtain ⟨cJ, j1, j2⟩ := st9_prim (ty := .long) (fun C h => by cases h) (hta _ qa_long)
  obtain ⟨cD, d1, d2⟩ := st9_prim (ty := .double) (fun C h => by cases h) (hta _ qa_double)
  obtain ⟨cC, c1, c2⟩ := st9_prim (ty := .char) (fun C h => by cases h) (hta _ qa_char)
  have hl : ∀ (w : Cond), w ∈ st9_sl → w.before args s = true := fun w hw => hts w (st9_slin w hw)
  have hv : ∀ (w : Cond), w ∈ st9_st → w.before args s = true := fun w hw => hf w (st9_stin w hw)
  obtain ⟨cF, f1, f2⟩ := st9_flat (C := RX0) (hl (.arrayOver (.object "MirageSurvey$Flat")) (by simp [st9_sl]))
  obtain ⟨ad, t1, t2⟩ := st9_texts (A := fun q => s.heap.size ≤ q) hts hgv hA
  refine ⟨(D, (cI, cJ, cD, cC, cF), s.heap.size, fun i => (ad i).1, fun i => (ad i).2), rfl, ⟨hD, ?_⟩, Nat.le_refl _, ?_⟩
  · intro k q hq
    have hm : q ∈ gT (D, (cI, cJ, cD, cC, cF), s.heap.size, (fun i => (ad i).1), (fun i => (ad i).2)) := List.mem_of_getElem? hq
    simp only [gT, gI, gJ, gD, gC, gF, List.mem_cons, List.not_mem_nil, or_false] at hm
    rcases hm with rfl | rfl | rfl | rfl | rfl
    · exact ⟨i1, i2⟩
    · exact ⟨j1, j2⟩
    · exact ⟨d1, d2⟩
    · exact ⟨c1, c2⟩
    · exact ⟨f1, f2⟩
  · refine ⟨?_, ?_, fun w hw => ?_, t1, t2, ?_, ?_, ?_, fun q hq => ?_⟩
    · exact vx_Zqof (hl _ (by simp [st9_sl, Bundle.tN, Bundle.steD, Bundle.listD])) (hl _ (by simp [st9_sl, Bundle.tN, Bundle.steD, Bundle.listD])) (hv _ (by simp [st9_st, Bundle.tN, Bundle.steD, Bundle.listD])) hA
    · exact vx_Zqof (hl _ (by simp [st9_sl, Bundle.tN, Bundle.steD, Bundle.listD])) (hl _ (by simp [st9_sl, Bundle.tN, Bundle.steD, Bundle.listD])) (hv _ (by simp [st9_st, Bundle.tN, Bundle.steD, Bundle.listD])) hA
    · have : ∀ w ∈ lw_nk, w.onTables = true := by decide +kernel
      exact va_Nw.of (this w hw) (hts w (st9_nk w hw))
    · exact va_AO.of (hl (.arrayOver (.object "MirageSurvey$Flat")) (by simp [st9_sl]))
    · exact va_Zof (hl _ (by simp [st9_sl])) (hl _ (by simp [st9_sl])) (va_eqt (hv (.eq (.static "java/lang/String" "COMPACT_STRINGS" "Z") (.int 1)) (by simp [st9_st]))) hA
    · exact va_Zqof (hl _ (by simp [st9_sl])) (hl _ (by simp [st9_sl])) (hv _ (by simp [st9_st])) hA
    · exact va_Nc.of (hf _ (st9_nc _ (List.mem_map.mpr ⟨q, hq, rfl⟩)))
