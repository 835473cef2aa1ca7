/-! String.length, charAt, isEmpty of the class's own texts -/
theorem k_str {g : GC} {p : Program} {l : Launch} {s : State} {m : MethodId} {args : Array Value} {meth : Method} {c : Code} {cc : ByteArray} {nL : Nat} {own : String} (hc : Cx g p l s m args meth c cc nL own) (i : Nat) {x : String × Nat × String} (hi : lw_tx[i]? = some x) : vk_R x.1 x.2.1 x.2.2 (g.2.2.2.1 i) s := hc.2.2.2.2.2.1.2.2.2.2.2.1 i x hi
/-- a text's cell: what reads it needs -/
theorem k_strS {g : GC} {p : Program} {l : Launch} {s : State} {m : MethodId} {args : Array Value} {meth : Method} {c : Code} {cc : ByteArray} {nL : Nat} {own : String} (hc : Cx g p l s m args meth c cc nL own) {i : Nat} {b : List Int32} (hi : lw_by[i]? = some b) : va_O "java/lang/String" (g.2.2.2.1 i) (gA g) s s.heap ∧ va_OF "java/lang/String" "coder" "B" (.int 0) (g.2.2.2.1 i) (gA g) s s.heap ∧ va_OF "java/lang/String" "value" "[B" (.ref (g.2.2.2.2 i)) (g.2.2.2.1 i) (gA g) s s.heap ∧ va_T .byte (g.2.2.2.2 i) b.length (fun j => .int (b.getD j 0)) (gA g) s s.heap :=
  (hc.2.2.2.2.2.1.2.2.2.2.2.2.1 i b hi).1 0 (by decide)
section KJ
variable {p : Program} {l : Launch} {e : Env} {R : Room} {s : State} {m : MethodId} {args : Array Value} {below : List Frame} {meth : Method} {c : Code} {H : Heap} {locs : List Loc} {cells slots : Nat} {Q : State → Prop}
variable {cc : ByteArray} {pc nL : Nat} {ls : Array Slot} {rest st0 : List Value} {g : GC} {M M1 : HM} {own : String} {v : Value}
theorem k_srecv (hc : Cx g p l s m args meth c cc nL own) {i : Nat} {b : List Int32} (hi : lw_by[i]? = some b) (hS : va_S (gA g) s.heap H locs) : ∃ cell : Cell, H[g.2.2.2.1 i]? = some cell ∧ cell.vm.isStatics = false ∧ s.vm.findClass RJ0 = some cell.cls := by
  have h := (k_strS hc hi).1.kept hS.2.1
  obtain ⟨cell, h1, h2, h3, -⟩ := h
  exact ⟨cell, h1, h2, h3⟩
/-- a call of a text's method -/
theorem k_VJ (hc : Cx g p l s m args meth c cc nL own) {i index n d mc ms nLc : Nat} {y : MethodName} {bc : ByteArray} {r : Option FieldType} {b : List Int32} (As : List Value) (hi : lw_by[i]? = some b) (hw : CwV own RJ0 index n y bc nLc r) (hdg : decode cc pc = .ok (.invokevirtual index, 3))
    (hK : KM g l y bc nLc r d mc ms (.ref (g.2.2.2.1 i) :: As) M (.inl (some v, M1))) (hM : hR g M H) (hS : va_S (gA g) s.heap H locs) (hl : ls.size = nL) (hn : As.length = n) (hst : As.reverse ++ .ref (g.2.2.2.1 i) :: rest = st0) (hroom : d + 1 ≤ R.frames ∧ 8 + (nLc + 11) + 60 * d ≤ R.locals) (hf : cells + mc ≤ R.cells ∧ slots + ms ≤ R.slots) (hW : (rest.map fun v => v.category).sum ≤ 8)
    (kk : ∀ (H1 : Heap) (locs1 : List Loc), hR g M1 H1 → va_S (gA g) s.heap H1 locs1 → W p l e R s m args below meth c H1 locs1 (cells + mc) (slots + ms) Q (F0 m (pc + 3) ls (v :: rest))) : W p l e R s m args below meth c H locs cells slots Q (F0 m pc ls st0) := by
  subst hst
  obtain ⟨w1, w2, w3, w4, w5, w6, w7, w8, w9⟩ := hw
  exact k_ran (vx_runV (As := As) (rest := rest) ⟨hc.1, hc.2.1, hc.2.2.1, hc.2.2.2.1, hc.2.2.2.2.1⟩ hK (cwV n hc.2.2.2.2.1 (lw_gV w1 w2 w3 w4 w5) rfl rfl rfl ⟨w6, w7, w8, w9⟩ hroom) ⟨KP.blind, k_srecv hc hi hS, hc.pre hM hS⟩ rfl hn hl rfl (by show 2 * 0 + _ ≤ 8; omega) hdg hf) hS (fun v2 M2 H1 locs1 hr hM1 hS1 => by cases hr; exact kk H1 locs1 hM1 hS1) (fun _ _ _ _ _ _ hr => by cases hr)
end KJ
theorem cw_J0_335 : CwV RJ0 RJ0 335 0 yJ0_coder_7d493 cJ0_coder_7d493 1 (some .byte) := ⟨q_J0_335, qi_J0_coder_7d493, qs_J0_coder_7d493, qn_String, qc_J0_coder_7d493, rfl, by decide, by decide, by decide +kernel⟩
theorem cw_J0_492 : CwV RJ0 RJ0 492 0 yJ0_isLatin1_aae02 cJ0_isLatin1_aae02 1 (some .boolean) := ⟨q_J0_492, qi_J0_isLatin1_aae02, qs_J0_isLatin1_aae02, qn_String, qc_J0_isLatin1_aae02, rfl, by decide, by decide, by decide +kernel⟩
theorem cw_J0_495 : CwS RJ0 495 2 yJ1_charAt_3b067 cJ1_charAt_3b067 2 (some .char) := ⟨q_J0_495, qt_J1_charAt_3b067, qn_StringLatin1, qc_J1_charAt_3b067, by decide, by decide, by decide +kernel⟩
theorem cw_J1_9 : CwS RJ1 9 2 yJ0_checkIndex_df160 cJ0_checkIndex_df160 2 none := ⟨q_J1_9, qt_J0_checkIndex_df160, qn_String, qc_J0_checkIndex_df160, by decide, by decide, by decide +kernel⟩
theorem cw_J0_1059 : CwS RJ0 1059 3 yJ3_checkIndex_8e157 cJ3_checkIndex_8e157 3 (some .int) := ⟨q_J0_1059, qt_J3_checkIndex_8e157, qn_Preconditions, qc_J3_checkIndex_8e157, by decide, by decide, by decide +kernel⟩
theorem cw_X4_57 : CwV RX4 RJ0 57 0 yJ0_length_8abf5 cJ0_length_8abf5 1 (some .int) := ⟨q_X4_57, qi_J0_length_8abf5, qs_J0_length_8abf5, qn_String, qc_J0_length_8abf5, rfl, by decide, by decide, by decide +kernel⟩
theorem cw_X2_33 : CwV RX2 RJ0 33 0 yJ0_length_8abf5 cJ0_length_8abf5 1 (some .int) := ⟨q_X2_33, qi_J0_length_8abf5, qs_J0_length_8abf5, qn_String, qc_J0_length_8abf5, rfl, by decide, by decide, by decide +kernel⟩
theorem cw_X4_62 : CwV RX4 RJ0 62 1 yJ0_charAt_5068e cJ0_charAt_5068e 2 (some .char) := ⟨q_X4_62, qi_J0_charAt_5068e, qs_J0_charAt_5068e, qn_String, qc_J0_charAt_5068e, rfl, by decide, by decide, by decide +kernel⟩
theorem cw_X2_38 : CwV RX2 RJ0 38 1 yJ0_charAt_5068e cJ0_charAt_5068e 2 (some .char) := ⟨q_X2_38, qi_J0_charAt_5068e, qs_J0_charAt_5068e, qn_String, qc_J0_charAt_5068e, rfl, by decide, by decide, by decide +kernel⟩
theorem cw_X4_69 : CwV RX4 RJ0 69 0 yJ0_isEmpty_aae02 cJ0_isEmpty_aae02 1 (some .boolean) := ⟨q_X4_69, qi_J0_isEmpty_aae02, qs_J0_isEmpty_aae02, qn_String, qc_J0_isEmpty_aae02, rfl, by decide, by decide, by decide +kernel⟩
set_option maxHeartbeats 4000000 in
set_option maxRecDepth 100000 in
theorem c_J0_coder (l : Launch) (hlf : l.stackTraces = false) (g : GC) (M : HM) (i : Nat) (b : List Int32) (hi : lw_by[i]? = some b) : KM g l yJ0_coder_7d493 cJ0_coder_7d493 1 (some .byte) 1 0 0 [.ref (g.2.2.2.1 i)] M (.inl (some (.int 0), M)) := by
  refine k_meth hlf (by decide) (Nat.le_of_ble_eq_true rfl) fun p e s m below meth c ls hc hr hnx hM hS hl => ?_
  have hc : Cx g p l s m [.ref (g.2.2.2.1 i)].toArray meth c cJ0_coder_7d493 1 RJ0 := hc
  have hx := hc.1
  have hb := hc.2.1
  have hl : lv_has ls 1 [(0, .ref (g.2.2.2.1 i))] := hl
  refine va_gets hx hb hc.2.2.2.2.2.1.2.2.2.2.2.2.2.2.1 hS hc.2.2.2.1 (hc.2.2.2.2.1 _ qf_J0_38) (fun _ h => h) dJ0_coder_7d493_0 ?_
  refine lv_if_eq (tgt := 13) hx hb dJ0_coder_7d493_3 (by decide) (fun h => absurd h (by decide)) (fun _ => ?_)
  refine lv_aload_n hx hb dJ0_coder_7d493_6 rfl (lv_at hl 0 rfl) ?_
  refine vk_getf hx hb (k_strS hc hi).2.1 hS hc.2.2.2.1 (hc.2.2.2.2.1 _ qf_J0_15) (fun _ h => h) dJ0_coder_7d493_7 ?_
  refine lv_goto (tgt := 14) hx hb dJ0_coder_7d493_10 (by decide) ?_
  exact k_zret hc hr dJ0_coder_7d493_14 hM hS rfl (Nat.le_of_ble_eq_true rfl) (Nat.le_of_ble_eq_true rfl) rfl
set_option maxHeartbeats 4000000 in
set_option maxRecDepth 100000 in
theorem c_J0_isLatin1 (l : Launch) (hlf : l.stackTraces = false) (g : GC) (M : HM) (i : Nat) (b : List Int32) (hi : lw_by[i]? = some b) : KM g l yJ0_isLatin1_aae02 cJ0_isLatin1_aae02 1 (some .boolean) 1 0 0 [.ref (g.2.2.2.1 i)] M (.inl (some (.int 1), M)) := by
  refine k_meth hlf (by decide) (Nat.le_of_ble_eq_true rfl) fun p e s m below meth c ls hc hr hnx hM hS hl => ?_
  have hc : Cx g p l s m [.ref (g.2.2.2.1 i)].toArray meth c cJ0_isLatin1_aae02 1 RJ0 := hc
  have hx := hc.1
  have hb := hc.2.1
  have hl : lv_has ls 1 [(0, .ref (g.2.2.2.1 i))] := hl
  refine va_gets hx hb hc.2.2.2.2.2.1.2.2.2.2.2.2.2.2.1 hS hc.2.2.2.1 (hc.2.2.2.2.1 _ qf_J0_38) (fun _ h => h) dJ0_isLatin1_aae02_0 ?_
  refine lv_if_eq (tgt := 17) hx hb dJ0_isLatin1_aae02_3 (by decide) (fun h => absurd h (by decide)) (fun _ => ?_)
  refine lv_aload_n hx hb dJ0_isLatin1_aae02_6 rfl (lv_at hl 0 rfl) ?_
  refine vk_getf hx hb (k_strS hc hi).2.1 hS hc.2.2.2.1 (hc.2.2.2.2.1 _ qf_J0_15) (fun _ h => h) dJ0_isLatin1_aae02_7 ?_
  refine lv_if_ne (tgt := 17) hx hb dJ0_isLatin1_aae02_10 (by decide) (fun h => absurd rfl h) (fun _ => ?_)
  refine lv_iconst (v := 1) hx hb dJ0_isLatin1_aae02_13 (by decide) ?_
  refine lv_goto (tgt := 18) hx hb dJ0_isLatin1_aae02_14 (by decide) ?_
  exact k_zret hc hr dJ0_isLatin1_aae02_18 hM hS rfl (Nat.le_of_ble_eq_true rfl) (Nat.le_of_ble_eq_true rfl) rfl
set_option maxHeartbeats 4000000 in
set_option maxRecDepth 100000 in
theorem c_J0_length (l : Launch) (hlf : l.stackTraces = false) (g : GC) (M : HM) (i : Nat) (b : List Int32) (hi : lw_by[i]? = some b) (hb9 : b.length < 2 ^ 31) : KM g l yJ0_length_8abf5 cJ0_length_8abf5 1 (some .int) 2 0 0 [.ref (g.2.2.2.1 i)] M (.inl (some (.int (nI b.length)), M)) := by
  refine k_meth hlf (by decide) (Nat.le_of_ble_eq_true rfl) fun p e s m below meth c ls hc hr hnx hM hS hl => ?_
  have hc : Cx g p l s m [.ref (g.2.2.2.1 i)].toArray meth c cJ0_length_8abf5 1 RJ0 := hc
  have hx := hc.1
  have hb := hc.2.1
  have hl : lv_has ls 1 [(0, .ref (g.2.2.2.1 i))] := hl
  refine lv_aload_n hx hb dJ0_length_8abf5_0 rfl (lv_at hl 0 rfl) ?_
  refine vk_getf hx hb (k_strS hc hi).2.2.1 hS hc.2.2.2.1 (hc.2.2.2.2.1 _ qf_J0_9) (fun _ h => h) dJ0_length_8abf5_1 ?_
  refine va_tlen hx hb (k_strS hc hi).2.2.2 hS rfl dJ0_length_8abf5_4 ?_
  refine lv_aload_n hx hb dJ0_length_8abf5_5 rfl (lv_at hl 0 rfl) ?_
  refine k_VJ hc [] hi cw_J0_335 dJ0_length_8abf5_6 (c_J0_coder l hlf g _ i b hi) hM hS hl.1 rfl rfl ⟨Nat.le_of_ble_eq_true rfl, Nat.le_of_ble_eq_true rfl⟩ ⟨Nat.le_of_ble_eq_true rfl, Nat.le_of_ble_eq_true rfl⟩ (Nat.le_of_ble_eq_true rfl) (fun H locs hM hS => ?_)
  refine lv_ishr hx hb dJ0_length_8abf5_9 ?_
  exact k_iret hc hr dJ0_length_8abf5_10 hM hS (Nat.le_of_ble_eq_true rfl) (Nat.le_of_ble_eq_true rfl) (by rw [show Int32.ofNat b.length >>> ((0 : Int32) &&& 31) = nI b.length from sc_shr0 hb9])
set_option maxHeartbeats 4000000 in
set_option maxRecDepth 100000 in
theorem c_J0_isEmpty (l : Launch) (hlf : l.stackTraces = false) (g : GC) (M : HM) (i : Nat) (b : List Int32) (hi : lw_by[i]? = some b) : KM g l yJ0_isEmpty_aae02 cJ0_isEmpty_aae02 1 (some .boolean) 1 0 0 [.ref (g.2.2.2.1 i)] M (.inl (some (.int (bI (nI b.length = 0))), M)) := by
  refine k_meth hlf (by decide) (Nat.le_of_ble_eq_true rfl) fun p e s m below meth c ls hc hr hnx hM hS hl => ?_
  have hc : Cx g p l s m [.ref (g.2.2.2.1 i)].toArray meth c cJ0_isEmpty_aae02 1 RJ0 := hc
  have hx := hc.1
  have hb := hc.2.1
  have hl : lv_has ls 1 [(0, .ref (g.2.2.2.1 i))] := hl
  refine lv_aload_n hx hb dJ0_isEmpty_aae02_0 rfl (lv_at hl 0 rfl) ?_
  refine vk_getf hx hb (k_strS hc hi).2.2.1 hS hc.2.2.2.1 (hc.2.2.2.2.1 _ qf_J0_9) (fun _ h => h) dJ0_isEmpty_aae02_1 ?_
  refine va_tlen hx hb (k_strS hc hi).2.2.2 hS (show Int32.ofNat b.length = nI b.length from rfl) dJ0_isEmpty_aae02_4 ?_
  refine lv_if_ne (tgt := 12) hx hb dJ0_isEmpty_aae02_5 (by decide) (fun h => ?_) (fun h => ?_)
  · refine lv_iconst (v := 0) hx hb dJ0_isEmpty_aae02_12 (by decide) ?_
    exact k_zret hc hr dJ0_isEmpty_aae02_13 hM hS rfl (Nat.le_of_ble_eq_true rfl) (Nat.le_of_ble_eq_true rfl) (by rw [bI_f h])
  · refine lv_iconst (v := 1) hx hb dJ0_isEmpty_aae02_8 (by decide) ?_
    refine lv_goto (tgt := 13) hx hb dJ0_isEmpty_aae02_9 (by decide) ?_
    exact k_zret hc hr dJ0_isEmpty_aae02_13 hM hS rfl (Nat.le_of_ble_eq_true rfl) (Nat.le_of_ble_eq_true rfl) (by rw [bI_t h])
set_option maxHeartbeats 4000000 in
set_option maxRecDepth 100000 in
theorem c_J3_checkIndex (l : Launch) (hlf : l.stackTraces = false) (g : GC) (M : HM) (i n : Int32) (z : Value) (hz : z = .null ∨ ∃ t, z = .ref t) (h1 : ¬ i < 0) (h2 : i < n) : KM g l yJ3_checkIndex_8e157 cJ3_checkIndex_8e157 3 (some .int) 1 0 0 [.int i, .int n, z] M (.inl (some (.int i), M)) := by
  have hz1 : (lg_sl [.int i, .int n, z]).length ≤ 3 := by rcases hz with rfl | ⟨t, rfl⟩ <;> exact Nat.le_of_ble_eq_true rfl
  refine k_meth hlf (by decide) hz1 fun p e s m below meth c ls hc hr hnx hM hS hl => ?_
  have hc : Cx g p l s m [.int i, .int n, z].toArray meth c cJ3_checkIndex_8e157 3 RJ3 := hc
  have hx := hc.1
  have hb := hc.2.1
  have hl : lv_has ls 3 [(0, .int i), (1, .int n)] := by
    rcases hz with rfl | ⟨t, rfl⟩
    · exact lv_sub hl [0, 1] rfl
    · exact lv_sub hl [0, 1] rfl
  refine lv_iload_n hx hb dJ3_checkIndex_8e157_0 rfl (lv_at hl 0 rfl) ?_
  refine lv_if_lt (tgt := 9) hx hb dJ3_checkIndex_8e157_1 (by decide) (fun h => absurd h h1) (fun _ => ?_)
  refine lv_iload_n hx hb dJ3_checkIndex_8e157_4 rfl (lv_at hl 0 rfl) ?_
  refine lv_iload_n hx hb dJ3_checkIndex_8e157_5 rfl (lv_at hl 1 rfl) ?_
  refine lv_icmp_lt (tgt := 16) hx hb dJ3_checkIndex_8e157_6 (by decide) (fun _ => ?_) (fun h => absurd h2 h)
  refine lv_iload_n hx hb dJ3_checkIndex_8e157_16 rfl (lv_at hl 0 rfl) ?_
  exact k_iret hc hr dJ3_checkIndex_8e157_17 hM hS (Nat.le_of_ble_eq_true rfl) (Nat.le_of_ble_eq_true rfl) rfl
set_option maxHeartbeats 4000000 in
set_option maxRecDepth 100000 in
theorem c_J0_checkIndex (l : Launch) (hlf : l.stackTraces = false) (g : GC) (M : HM) (i n : Int32) (h1 : ¬ i < 0) (h2 : i < n) : KM g l yJ0_checkIndex_df160 cJ0_checkIndex_df160 2 none 2 0 0 [.int i, .int n] M (.inl (none, M)) := by
  refine k_meth hlf (by decide) (Nat.le_of_ble_eq_true rfl) fun p e s m below meth c ls hc hr hnx hM hS hl => ?_
  have hc : Cx g p l s m [.int i, .int n].toArray meth c cJ0_checkIndex_df160 2 RJ0 := hc
  have hx := hc.1
  have hb := hc.2.1
  have hl : lv_has ls 2 [(0, .int i), (1, .int n)] := hl
  refine lv_iload_n hx hb dJ0_checkIndex_df160_0 rfl (lv_at hl 0 rfl) ?_
  refine lv_iload_n hx hb dJ0_checkIndex_df160_1 rfl (lv_at hl 1 rfl) ?_
  have hq := hc.2.2.2.2.2.1.2.2.2.2.2.2.2.2.2.1
  have hz : ∃ z : Value, (z = .null ∨ ∃ t, z = .ref t) ∧ va_Z "jdk/internal/util/Preconditions" "SIOOBE_FORMATTER" "Ljava/util/function/BiFunction;" z (gA g) s s.heap := by
    rcases hq with h | ⟨t, h⟩
    · exact ⟨_, Or.inl rfl, h⟩
    · exact ⟨_, Or.inr ⟨t, rfl⟩, h⟩
  obtain ⟨z, hz, hZ⟩ := hz
  refine va_gets hx hb hZ hS hc.2.2.2.1 (hc.2.2.2.2.1 _ qf_J0_1053) (fun _ h => h) dJ0_checkIndex_df160_2 ?_
  refine k_S1 hc [.int i, .int n, z] cw_J0_1059 dJ0_checkIndex_df160_5 (c_J3_checkIndex l hlf g _ i n z hz h1 h2) hM hS hl.1 rfl rfl ⟨Nat.le_of_ble_eq_true rfl, Nat.le_of_ble_eq_true rfl⟩ ⟨Nat.le_of_ble_eq_true rfl, Nat.le_of_ble_eq_true rfl⟩ (Nat.le_of_ble_eq_true rfl) (fun H locs hM hS => ?_)
  refine lv_pop hx hb dJ0_checkIndex_df160_8 rfl ?_
  exact k_vret hc hr dJ0_checkIndex_df160_9 hM hS (Nat.le_of_ble_eq_true rfl) (Nat.le_of_ble_eq_true rfl) rfl
section KS0
variable {p : Program} {l : Launch} {e : Env} {R : Room} {s : State} {m : MethodId} {args : Array Value} {below : List Frame} {meth : Method} {c : Code} {H : Heap} {locs : List Loc} {cells slots : Nat} {Q : State → Prop}
variable {cc : ByteArray} {pc nL : Nat} {ls : Array Slot} {rest st0 : List Value} {g : GC} {M M1 : HM} {own : String} {v : Value}
theorem k_S0 (hc : Cx g p l s m args meth c cc nL own) {index n d mc ms nLc : Nat} {y : MethodName} {bc : ByteArray} {r : Option FieldType} (As : List Value) (hw : CwS own index n y bc nLc r) (hdg : decode cc pc = .ok (.invokestatic index, 3))
    (hK : KM g l y bc nLc r d mc ms As M (.inl (none, M1))) (hM : hR g M H) (hS : va_S (gA g) s.heap H locs) (hl : ls.size = nL) (hn : As.length = n) (hst : As.reverse ++ rest = st0) (hroom : d + 1 ≤ R.frames ∧ 8 + (nLc + 11) + 60 * d ≤ R.locals) (hf : cells + mc ≤ R.cells ∧ slots + ms ≤ R.slots) (hW : (rest.map fun v => v.category).sum ≤ 8)
    (kk : ∀ (H1 : Heap) (locs1 : List Loc), hR g M1 H1 → va_S (gA g) s.heap H1 locs1 → W p l e R s m args below meth c H1 locs1 (cells + mc) (slots + ms) Q (F0 m (pc + 3) ls rest)) : W p l e R s m args below meth c H locs cells slots Q (F0 m pc ls st0) := by
  subst hst
  exact k_goS hc hw hdg hK hM hS hn hl hroom hf hW (fun v2 M2 H1 locs1 hr hM1 hS1 => by cases hr; exact kk H1 locs1 hM1 hS1) (fun _ _ _ _ _ _ hr => by cases hr)
end KS0
/-- the character at a place of a text -/
def chI (b : List Int32) (k : Nat) : Int32 := b.getD k 0 &&& 255
set_option maxHeartbeats 4000000 in
set_option maxRecDepth 100000 in
theorem c_J1_charAt (l : Launch) (hlf : l.stackTraces = false) (g : GC) (M : HM) (i : Nat) (b : List Int32) (k : Nat) (hi : lw_by[i]? = some b) (hb9 : b.length < 2 ^ 31) (hk : k < b.length) : KM g l yJ1_charAt_3b067 cJ1_charAt_3b067 2 (some .char) 3 0 0 [.ref (g.2.2.2.2 i), .int (nI k)] M (.inl (some (.int (chI b k)), M)) := by
  refine k_meth hlf (by decide) (Nat.le_of_ble_eq_true rfl) fun p e s m below meth c ls hc hr hnx hM hS hl => ?_
  have hc : Cx g p l s m [.ref (g.2.2.2.2 i), .int (nI k)].toArray meth c cJ1_charAt_3b067 2 RJ1 := hc
  have hx := hc.1
  have hb := hc.2.1
  have hl : lv_has ls 2 [(0, .ref (g.2.2.2.2 i)), (1, .int (nI k))] := hl
  refine lv_iload_n hx hb dJ1_charAt_3b067_0 rfl (lv_at hl 1 rfl) ?_
  refine lv_aload_n hx hb dJ1_charAt_3b067_1 rfl (lv_at hl 0 rfl) ?_
  refine va_tlen hx hb (k_strS hc hi).2.2.2 hS (show Int32.ofNat b.length = nI b.length from rfl) dJ1_charAt_3b067_2 ?_
  refine k_S0 hc [.int (nI k), .int (nI b.length)] cw_J1_9 dJ1_charAt_3b067_3 (c_J0_checkIndex l hlf g _ (nI k) (nI b.length) (nI_pos (by omega)) (nI_lt hk hb9)) hM hS hl.1 rfl rfl ⟨Nat.le_of_ble_eq_true rfl, Nat.le_of_ble_eq_true rfl⟩ ⟨Nat.le_of_ble_eq_true rfl, Nat.le_of_ble_eq_true rfl⟩ (Nat.le_of_ble_eq_true rfl) (fun H locs hM hS => ?_)
  refine lv_aload_n hx hb dJ1_charAt_3b067_6 rfl (lv_at hl 0 rfl) ?_
  refine lv_iload_n hx hb dJ1_charAt_3b067_7 rfl (lv_at hl 1 rfl) ?_
  refine va_tb (v := .int (b.getD k 0)) hx hb (k_strS hc hi).2.2.2 hS (vp_in_nI hk (by omega)) (by rw [nI_clamp (by omega)]) dJ1_charAt_3b067_8 ?_
  refine lv_sipush (v := 255) hx hb dJ1_charAt_3b067_9 (by decide) ?_
  refine lv_iand hx hb dJ1_charAt_3b067_12 ?_
  refine lv_i2c (v := chI b k) hx hb dJ1_charAt_3b067_13 (sc_c2 _) ?_
  exact k_zret hc hr dJ1_charAt_3b067_14 hM hS (sc_nar _) (Nat.le_of_ble_eq_true rfl) (Nat.le_of_ble_eq_true rfl) rfl
set_option maxHeartbeats 4000000 in
set_option maxRecDepth 100000 in
theorem c_J0_charAt (l : Launch) (hlf : l.stackTraces = false) (g : GC) (M : HM) (i : Nat) (b : List Int32) (k : Nat) (hi : lw_by[i]? = some b) (hb9 : b.length < 2 ^ 31) (hk : k < b.length) : KM g l yJ0_charAt_5068e cJ0_charAt_5068e 2 (some .char) 4 0 0 [.ref (g.2.2.2.1 i), .int (nI k)] M (.inl (some (.int (chI b k)), M)) := by
  refine k_meth hlf (by decide) (Nat.le_of_ble_eq_true rfl) fun p e s m below meth c ls hc hr hnx hM hS hl => ?_
  have hc : Cx g p l s m [.ref (g.2.2.2.1 i), .int (nI k)].toArray meth c cJ0_charAt_5068e 2 RJ0 := hc
  have hx := hc.1
  have hb := hc.2.1
  have hl : lv_has ls 2 [(0, .ref (g.2.2.2.1 i)), (1, .int (nI k))] := hl
  refine lv_aload_n hx hb dJ0_charAt_5068e_0 rfl (lv_at hl 0 rfl) ?_
  refine k_VJ hc [] hi cw_J0_492 dJ0_charAt_5068e_1 (c_J0_isLatin1 l hlf g _ i b hi) hM hS hl.1 rfl rfl ⟨Nat.le_of_ble_eq_true rfl, Nat.le_of_ble_eq_true rfl⟩ ⟨Nat.le_of_ble_eq_true rfl, Nat.le_of_ble_eq_true rfl⟩ (Nat.le_of_ble_eq_true rfl) (fun H locs hM hS => ?_)
  refine lv_if_eq (tgt := 16) hx hb dJ0_charAt_5068e_4 (by decide) (fun h => absurd h (by decide)) (fun _ => ?_)
  refine lv_aload_n hx hb dJ0_charAt_5068e_7 rfl (lv_at hl 0 rfl) ?_
  refine vk_getf hx hb (k_strS hc hi).2.2.1 hS hc.2.2.2.1 (hc.2.2.2.2.1 _ qf_J0_9) (fun _ h => h) dJ0_charAt_5068e_8 ?_
  refine lv_iload_n hx hb dJ0_charAt_5068e_11 rfl (lv_at hl 1 rfl) ?_
  refine k_S1 hc [.ref (g.2.2.2.2 i), .int (nI k)] cw_J0_495 dJ0_charAt_5068e_12 (c_J1_charAt l hlf g _ i b k hi hb9 hk) hM hS hl.1 rfl rfl ⟨Nat.le_of_ble_eq_true rfl, Nat.le_of_ble_eq_true rfl⟩ ⟨Nat.le_of_ble_eq_true rfl, Nat.le_of_ble_eq_true rfl⟩ (Nat.le_of_ble_eq_true rfl) (fun H locs hM hS => ?_)
  exact k_zret hc hr dJ0_charAt_5068e_15 hM hS (sc_nar _) (Nat.le_of_ble_eq_true rfl) (Nat.le_of_ble_eq_true rfl) rfl
