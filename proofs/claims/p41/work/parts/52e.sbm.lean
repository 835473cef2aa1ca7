/-! THE BUILDER'S METHODS, WALKED -/
theorem qz_isLatin1 : Cond.selects RJ4 yJ5_isLatin1_aae02 yJ5_isLatin1_aae02 ∈ lw_all := lw_in (List.mem_of_getElem? (i := 1261) (by decide +kernel)) (by decide +kernel)
theorem qz_getValue : Cond.selects RJ4 yJ5_getValue_6d5f1 yJ5_getValue_6d5f1 ∈ lw_all := lw_in (List.mem_of_getElem? (i := 1354) (by decide +kernel)) (by decide +kernel)
theorem qz_length : Cond.selects RJ4 yJ5_length_8abf5 yJ4_length_8abf5 ∈ lw_all := lw_in (List.mem_of_getElem? (i := 1359) (by decide +kernel)) (by decide +kernel)
theorem qy_isLatin1 : Cond.sameMethod RJ5 RJ5 (yJ5_isLatin1_aae02).name (yJ5_isLatin1_aae02).desc ∈ lw_all := lw_in (List.mem_of_getElem? (i := 1260) (by decide +kernel)) (by decide +kernel)
theorem qy_getValue : Cond.sameMethod RJ5 RJ5 (yJ5_getValue_6d5f1).name (yJ5_getValue_6d5f1).desc ∈ lw_all := lw_in (List.mem_of_getElem? (i := 1353) (by decide +kernel)) (by decide +kernel)
theorem qy_length : Cond.sameMethod RJ5 RJ5 (yJ5_length_8abf5).name (yJ5_length_8abf5).desc ∈ lw_all := lw_in (List.mem_of_getElem? (i := 1358) (by decide +kernel)) (by decide +kernel)
theorem qy_appendS : Cond.sameMethod RJ5 RJ5 (yJ5_append_cf1ce).name (yJ5_append_cf1ce).desc ∈ lw_all := lw_in (List.mem_of_getElem? (i := 1416) (by decide +kernel)) (by decide +kernel)
theorem qy_ensure : Cond.sameMethod RJ5 RJ5 (yJ5_ensureCapacityInternal_d00df).name (yJ5_ensureCapacityInternal_d00df).desc ∈ lw_all := lw_in (List.mem_of_getElem? (i := 1418) (by decide +kernel)) (by decide +kernel)
theorem qy_putStringAt : Cond.sameMethod RJ5 RJ5 (yJ5_putStringAt_47b60).name (yJ5_putStringAt_47b60).desc ∈ lw_all := lw_in (List.mem_of_getElem? (i := 1420) (by decide +kernel)) (by decide +kernel)
theorem qy_inflateIf : Cond.sameMethod RJ5 RJ5 (yJ5_inflateIfNeededFor_a7421).name (yJ5_inflateIfNeededFor_a7421).desc ∈ lw_all := lw_in (List.mem_of_getElem? (i := 1421) (by decide +kernel)) (by decide +kernel)
theorem qy_appendI : Cond.sameMethod RJ5 RJ5 (yJ5_append_c97b9).name (yJ5_append_c97b9).desc ∈ lw_all := lw_in (List.mem_of_getElem? (i := 1423) (by decide +kernel)) (by decide +kernel)
theorem qy_super : Cond.superclass RJ4 RJ5 ∈ lw_all := lw_in (List.mem_of_getElem? (i := 1216) (by decide +kernel)) (by decide +kernel)
theorem cwb_coder5 : CwV RJ5 RJ0 40 0 yJ0_coder_7d493 cJ0_coder_7d493 1 (some .byte) := ⟨q_J5_40, qi_J0_coder_7d493, qs_J0_coder_7d493, qn_String, qc_J0_coder_7d493, rfl, by decide, by decide, by decide +kernel⟩
theorem cwb_len5 : CwV RJ5 RJ0 32 0 yJ0_length_8abf5 cJ0_length_8abf5 1 (some .int) := ⟨q_J5_32, qi_J0_length_8abf5, qs_J0_length_8abf5, qn_String, qc_J0_length_8abf5, rfl, by decide, by decide, by decide +kernel⟩
theorem cwb_getBytes : CwV RJ5 RJ0 399 3 yJ0_getBytes_840e7 cJ0_getBytes_840e7 4 none := ⟨q_J5_399, qi_J0_getBytes_840e7, qs_J0_getBytes_840e7, qn_String, qc_J0_getBytes_840e7, rfl, by decide, by decide, by decide +kernel⟩
theorem cwb_size : CwS RJ5 245 1 yJ6_stringSize_0f7a4 cJ6_stringSize_0f7a4 4 (some .int) := ⟨q_J5_245, qt_J6_stringSize_0f7a4, qn_Integer, qc_J6_stringSize_0f7a4, by decide, by decide, by decide +kernel⟩
theorem cwb_chars : CwS RJ5 248 3 yJ6_getChars_ba4f3 cJ6_getChars_ba4f3 7 (some .int) := ⟨q_J5_248, qt_J6_getChars_ba4f3, qn_Integer, qc_J6_getChars_ba4f3, by decide, by decide, by decide +kernel⟩
theorem cwb_ini5 : CwI RJ4 1 1 yJ5_init_d00df cJ5_init_d00df 2 := ⟨q_J4_1, qi_J5_init_d00df, qn_AbstractStringBuilder, qc_J5_init_d00df, rfl, by decide, by decide, by decide +kernel⟩
theorem cwb_range : CwS RJ0 54 3 yJ7_copyOfRange_39247 cJ7_copyOfRange_39247 3 (some (.array .byte)) := ⟨q_J0_54, qt_J7_copyOfRange_39247, qn_Arrays, qc_J7_copyOfRange_39247, by decide, by decide, by decide +kernel⟩
theorem cwb_rangeB : CwS RJ7 339 3 yJ7_copyOfRangeByte_39247 cJ7_copyOfRangeByte_39247 5 (some (.array .byte)) := ⟨q_J7_339, qt_J7_copyOfRangeByte_39247, qn_Arrays, qc_J7_copyOfRangeByte_39247, by decide, by decide, by decide +kernel⟩
theorem cwb_checkL : CwS RJ7 343 2 yJ7_checkLength_df160 cJ7_checkLength_df160 2 none := ⟨q_J7_343, qt_J7_checkLength_df160, qn_Arrays, qc_J7_checkLength_df160, by decide, by decide, by decide +kernel⟩
theorem cwb_ini0 : CwI RJ0 489 2 yJ0_init_db425 cJ0_init_db425 5 := ⟨q_J0_489, qi_J0_init_db425, qn_String, qc_J0_init_db425, rfl, by decide, by decide, by decide +kernel⟩
theorem cwb_ini4 : CwI RJ4 137 1 yJ0_init_81219 cJ0_init_81219 2 := ⟨q_J4_137, qi_J0_init_81219, qn_String, qc_J0_init_81219, rfl, by decide, by decide, by decide +kernel⟩
set_option maxHeartbeats 4000000 in
set_option maxRecDepth 100000 in
theorem c_J5_isLatin1 (l : Launch) (hlf : l.stackTraces = false) (g : GC) (M0 M : HM) (a n : Nat) (hB : SbW g M0 a n M) : KMo g l yJ5_isLatin1_aae02 cJ5_isLatin1_aae02 1 (some .boolean) 1 0 0 [.ref a] M (fun v M1 => v = some (.int 1) ∧ M1 = M) := by
  refine k_metho hlf (by decide) (Nat.le_of_ble_eq_true rfl) fun p e s m below meth c ls hc hr hin2 hnx hM hS hl => ?_
  have hc : Cx g p l s m [.ref a].toArray meth c cJ5_isLatin1_aae02 1 RJ5 := hc
  have hx := hc.1
  have hb := hc.2.1
  have hl : lv_has ls 1 [(0, .ref a)] := hl
  obtain ⟨d, z, f, h0, hA, hD, hf⟩ := hB
  refine va_gets hx hb hc.2.2.2.2.2.1.2.2.2.2.2.2.2.2.1 hS hc.2.2.2.1 (hc.2.2.2.2.1 _ qf_J5_18) (fun _ h => h) dJ5_isLatin1_aae02_0 ?_
  refine lv_if_eq (tgt := 17) hx hb dJ5_isLatin1_aae02_3 (by decide) (fun h => absurd h (by decide)) (fun _ => ?_)
  refine lv_aload_n hx hb dJ5_isLatin1_aae02_6 rfl (lv_at hl 0 rfl) ?_
  refine k_get hc (T := TJ4) in_J4 rfl 1 (by decide) qf_J5_22 rfl dJ5_isLatin1_aae02_7 hM hA rfl ?_
  refine lv_if_ne (tgt := 17) hx hb dJ5_isLatin1_aae02_10 (by decide) (fun h => absurd rfl h) (fun _ => ?_)
  refine lv_iconst (v := 1) hx hb dJ5_isLatin1_aae02_13 (by decide) ?_
  refine lv_goto (tgt := 18) hx hb dJ5_isLatin1_aae02_14 (by decide) ?_
  exact k_oret hc (Or.inr hr) dJ5_isLatin1_aae02_18 hM hS (fun ty h => by rw [hr] at h; cases h; rfl) (Nat.le_of_ble_eq_true rfl) (Nat.le_of_ble_eq_true rfl) ⟨rfl, rfl⟩
set_option maxHeartbeats 4000000 in
set_option maxRecDepth 100000 in
theorem c_J5_length (l : Launch) (hlf : l.stackTraces = false) (g : GC) (M0 M : HM) (a n : Nat) (hB : SbW g M0 a n M) : KMo g l yJ5_length_8abf5 cJ5_length_8abf5 1 (some .int) 1 0 0 [.ref a] M (fun v M1 => v = some (.int (nI n)) ∧ M1 = M) := by
  refine k_metho hlf (by decide) (Nat.le_of_ble_eq_true rfl) fun p e s m below meth c ls hc hr hin2 hnx hM hS hl => ?_
  have hc : Cx g p l s m [.ref a].toArray meth c cJ5_length_8abf5 1 RJ5 := hc
  have hx := hc.1
  have hb := hc.2.1
  have hl : lv_has ls 1 [(0, .ref a)] := hl
  obtain ⟨d, z, f, h0, hA, hD, hf⟩ := hB
  refine lv_aload_n hx hb dJ5_length_8abf5_0 rfl (lv_at hl 0 rfl) ?_
  refine k_get hc (T := TJ4) in_J4 rfl 3 (by decide) qf_J5_79 rfl dJ5_length_8abf5_1 hM hA rfl ?_
  exact k_oret hc (Or.inl hr) dJ5_length_8abf5_4 hM hS (fun ty h => by rw [hr] at h; cases h; rfl) (Nat.le_of_ble_eq_true rfl) (Nat.le_of_ble_eq_true rfl) ⟨rfl, rfl⟩
set_option maxHeartbeats 4000000 in
set_option maxRecDepth 100000 in
theorem c_J4_length (l : Launch) (hlf : l.stackTraces = false) (g : GC) (M0 M : HM) (a n : Nat) (hB : SbW g M0 a n M) : KMo g l yJ4_length_8abf5 cJ4_length_8abf5 1 (some .int) 2 0 0 [.ref a] M (fun v M1 => v = some (.int (nI n)) ∧ M1 = M) := by
  refine k_metho hlf (by decide) (Nat.le_of_ble_eq_true rfl) fun p e s m below meth c ls hc hr hin2 hnx hM hS hl => ?_
  have hc : Cx g p l s m [.ref a].toArray meth c cJ4_length_8abf5 1 RJ4 := hc
  have hx := hc.1
  have hb := hc.2.1
  have hl : lv_has ls 1 [(0, .ref a)] := hl
  have hB9 := hB
  obtain ⟨d, z, f, h0, hA, hD, hf⟩ := hB
  refine lv_aload_n hx hb dJ4_length_8abf5_0 rfl (lv_at hl 0 rfl) ?_
  refine k_goY hc (C := RJ4) (ci := 8) [] rfl q_J4_343 qc_J5_length_8abf5 qn_AbstractStringBuilder (sup_sb hc qi_J5_length_8abf5 qc_J5_length_8abf5 qy_length qy_super rfl (by decide) (by decide +kernel)) dJ4_length_8abf5_1 (c_J5_length l hlf g M0 M a n hB9) hA hM hS hl.1 rfl rfl ⟨Nat.le_of_ble_eq_true rfl, Nat.le_of_ble_eq_true rfl⟩ ⟨Nat.le_of_ble_eq_true rfl, Nat.le_of_ble_eq_true rfl⟩ (Nat.le_of_ble_eq_true rfl) (fun v M1 H locs hs hM hS => ?_)
  obtain ⟨hv, h1⟩ := hs
  subst hv
  rw [h1] at hM
  exact k_oret hc (Or.inl hr) dJ4_length_8abf5_4 hM hS (fun ty h => by rw [hr] at h; cases h; rfl) (Nat.le_of_ble_eq_true rfl) (Nat.le_of_ble_eq_true rfl) ⟨rfl, rfl⟩
set_option maxHeartbeats 4000000 in
set_option maxRecDepth 100000 in
theorem c_J5_getValue (l : Launch) (hlf : l.stackTraces = false) (g : GC) (M0 M : HM) (a n d : Nat) (z : Value) (hA : M a = some (.inr (8, [.ref d, .int 0, z, .int (nI n)]))) : KMo g l yJ5_getValue_6d5f1 cJ5_getValue_6d5f1 1 (some (.array .byte)) 1 0 0 [.ref a] M (fun v M1 => v = some (.ref d) ∧ M1 = M) := by
  refine k_metho hlf (by decide) (Nat.le_of_ble_eq_true rfl) fun p e s m below meth c ls hc hr hin2 hnx hM hS hl => ?_
  have hc : Cx g p l s m [.ref a].toArray meth c cJ5_getValue_6d5f1 1 RJ5 := hc
  have hx := hc.1
  have hb := hc.2.1
  have hl : lv_has ls 1 [(0, .ref a)] := hl
  refine lv_aload_n hx hb dJ5_getValue_6d5f1_0 rfl (lv_at hl 0 rfl) ?_
  refine k_get hc (T := TJ4) in_J4 rfl 0 (by decide) qf_J5_15 rfl dJ5_getValue_6d5f1_1 hM hA rfl ?_
  exact k_oaret hc (Or.inr ⟨_, rfl⟩) hr dJ5_getValue_6d5f1_4 hM hS (Nat.le_of_ble_eq_true rfl) (Nat.le_of_ble_eq_true rfl) ⟨rfl, rfl⟩
section KVJO
variable {p : Program} {l : Launch} {e : Env} {R : Room} {s : State} {m : MethodId} {args : Array Value} {below : List Frame} {meth : Method} {c : Code} {H : Heap} {locs : List Loc} {cells slots : Nat} {Q : State → Prop}
variable {cc : ByteArray} {pc nL : Nat} {ls : Array Slot} {rest st0 : List Value} {g : GC} {M : HM} {own : String} {mc ms : Nat} {S : Option Value → HM → Prop}
theorem k_VJo (hc : Cx g p l s m args meth c cc nL own) {i index n d nLc : Nat} {y : MethodName} {bc : ByteArray} {r : Option FieldType} {b : List Int32} (As : List Value) (hi : lw_by[i]? = some b) (hw : CwV own RJ0 index n y bc nLc r) (hdg : decode cc pc = .ok (.invokevirtual index, 3))
    (hK : KMo g l y bc nLc r d mc ms (.ref (g.2.2.2.1 i) :: As) M S) (hM : hR g M H) (hS : va_S (gA g) s.heap H locs) (hl : ls.size = nL) (hn : As.length = n) (hst : As.reverse ++ .ref (g.2.2.2.1 i) :: rest = st0) (hroom : d + 1 ≤ R.frames ∧ 8 + (nLc + 11) + 60 * d ≤ R.locals) (hf : cells + mc ≤ R.cells ∧ slots + ms ≤ R.slots) (hW : (rest.map fun v => v.category).sum ≤ 8)
    (kk : ∀ (v : Option Value) (M1 : HM) (H1 : Heap) (locs1 : List Loc), S v M1 → hR g M1 H1 → va_S (gA g) s.heap H1 locs1 → W p l e R s m args below meth c H1 locs1 (cells + mc) (slots + ms) Q (F0 m (pc + 3) ls (v.toList ++ rest))) : W p l e R s m args below meth c H locs cells slots Q (F0 m pc ls st0) := by
  subst hst
  obtain ⟨w1, w2, w3, w4, w5, w6, w7, w8, w9⟩ := hw
  exact k_ranO (vx_runV (As := As) (rest := rest) ⟨hc.1, hc.2.1, hc.2.2.1, hc.2.2.2.1, hc.2.2.2.2.1⟩ hK (cwV n hc.2.2.2.2.1 (lw_gV w1 w2 w3 w4 w5) rfl rfl rfl ⟨w6, w7, w8, w9⟩ hroom) ⟨KP.blind, k_srecv hc hi hS, hc.pre hM hS⟩ rfl hn hl rfl (by show 2 * 0 + _ ≤ 8; omega) hdg hf) hS kk
end KVJO
theorem en_le : ∀ k : Nat, k < 17 → nI k - nI 16 >>> ((0 : Int32) &&& 31) ≤ 0 := by decide +kernel
set_option maxHeartbeats 4000000 in
set_option maxRecDepth 100000 in
theorem c_J5_ensure (l : Launch) (hlf : l.stackTraces = false) (g : GC) (M0 M : HM) (a n : Nat) (hB : SbW g M0 a n M) (k : Nat) (hk : k ≤ 16) : KMo g l yJ5_ensureCapacityInternal_d00df cJ5_ensureCapacityInternal_d00df 3 none 1 0 0 [.ref a, .int (nI k)] M (fun v M1 => v = none ∧ M1 = M) := by
  refine k_metho hlf (by decide) (Nat.le_of_ble_eq_true rfl) fun p e s m below meth c ls hc hr hin2 hnx hM hS hl => ?_
  have hc : Cx g p l s m [.ref a, .int (nI k)].toArray meth c cJ5_ensureCapacityInternal_d00df 3 RJ5 := hc
  have hx := hc.1
  have hb := hc.2.1
  have hl : lv_has ls 3 [(0, .ref a), (1, .int (nI k))] := hl
  obtain ⟨d, z, f, h0, hA, hD, hf⟩ := hB
  refine lv_aload_n hx hb dJ5_ensureCapacityInternal_d00df_0 rfl (lv_at hl 0 rfl) ?_
  refine k_get hc (T := TJ4) in_J4 rfl 0 (by decide) qf_J5_15 rfl dJ5_ensureCapacityInternal_d00df_1 hM hA rfl ?_
  refine k_alenB hc hM hD dJ5_ensureCapacityInternal_d00df_4 ?_
  refine lv_aload_n hx hb dJ5_ensureCapacityInternal_d00df_5 rfl (lv_at hl 0 rfl) ?_
  refine k_get hc (T := TJ4) in_J4 rfl 1 (by decide) qf_J5_22 rfl dJ5_ensureCapacityInternal_d00df_6 hM hA rfl ?_
  refine lv_ishr hx hb dJ5_ensureCapacityInternal_d00df_9 ?_
  refine lv_istore_n (lv' := [(2, .int (nI 16 >>> ((0 : Int32) &&& 31))), (0, .ref a), (1, .int (nI k))]) hx hb dJ5_ensureCapacityInternal_d00df_10 rfl hl (by decide) rfl (fun ls hl => ?_)
  refine lv_iload_n hx hb dJ5_ensureCapacityInternal_d00df_11 rfl (lv_at hl 2 rfl) ?_
  refine lv_iload_n hx hb dJ5_ensureCapacityInternal_d00df_12 rfl (lv_at hl 0 rfl) ?_
  refine lv_isub hx hb dJ5_ensureCapacityInternal_d00df_13 ?_
  refine lv_if_le (tgt := 38) hx hb dJ5_ensureCapacityInternal_d00df_14 (by decide) (fun _ => ?_) (fun h => absurd (en_le k (by omega)) h)
  exact k_ovret hc hr dJ5_ensureCapacityInternal_d00df_38 hM hS (Nat.le_of_ble_eq_true rfl) (Nat.le_of_ble_eq_true rfl) ⟨rfl, rfl⟩
set_option maxHeartbeats 4000000 in
set_option maxRecDepth 100000 in
theorem c_J5_inflateIf (l : Launch) (hlf : l.stackTraces = false) (g : GC) (M0 M : HM) (a n : Nat) (hB : SbW g M0 a n M) (i : Nat) (b : List Int32) (hi : lw_by[i]? = some b) : KMo g l yJ5_inflateIfNeededFor_a7421 cJ5_inflateIfNeededFor_a7421 2 none 2 0 0 [.ref a, .ref (g.2.2.2.1 i)] M (fun v M1 => v = none ∧ M1 = M) := by
  refine k_metho hlf (by decide) (Nat.le_of_ble_eq_true rfl) fun p e s m below meth c ls hc hr hin2 hnx hM hS hl => ?_
  have hc : Cx g p l s m [.ref a, .ref (g.2.2.2.1 i)].toArray meth c cJ5_inflateIfNeededFor_a7421 2 RJ5 := hc
  have hx := hc.1
  have hb := hc.2.1
  have hl : lv_has ls 2 [(0, .ref a), (1, .ref (g.2.2.2.1 i))] := hl
  obtain ⟨d, z, f, h0, hA, hD, hf⟩ := hB
  refine va_gets hx hb hc.2.2.2.2.2.1.2.2.2.2.2.2.2.2.1 hS hc.2.2.2.1 (hc.2.2.2.2.1 _ qf_J5_18) (fun _ h => h) dJ5_inflateIfNeededFor_a7421_0 ?_
  refine lv_if_eq (tgt := 21) hx hb dJ5_inflateIfNeededFor_a7421_3 (by decide) (fun h => absurd h (by decide)) (fun _ => ?_)
  refine lv_aload_n hx hb dJ5_inflateIfNeededFor_a7421_6 rfl (lv_at hl 0 rfl) ?_
  refine k_get hc (T := TJ4) in_J4 rfl 1 (by decide) qf_J5_22 rfl dJ5_inflateIfNeededFor_a7421_7 hM hA rfl ?_
  refine lv_aload_n hx hb dJ5_inflateIfNeededFor_a7421_10 rfl (lv_at hl 1 rfl) ?_
  refine k_VJ hc [] hi cwb_coder5 dJ5_inflateIfNeededFor_a7421_11 (c_J0_coder l hlf g _ i b hi) hM hS hl.1 rfl rfl ⟨Nat.le_of_ble_eq_true rfl, Nat.le_of_ble_eq_true rfl⟩ ⟨Nat.le_of_ble_eq_true rfl, Nat.le_of_ble_eq_true rfl⟩ (Nat.le_of_ble_eq_true rfl) (fun H locs hM hS => ?_)
  refine lv_icmp_eq (tgt := 21) hx hb dJ5_inflateIfNeededFor_a7421_14 (by decide) (fun _ => ?_) (fun h => absurd rfl h)
  exact k_ovret hc hr dJ5_inflateIfNeededFor_a7421_21 hM hS (Nat.le_of_ble_eq_true rfl) (Nat.le_of_ble_eq_true rfl) ⟨rfl, rfl⟩
theorem shl_0 : ∀ k : Nat, k < 17 → nI k <<< ((0 : Int32) &&& 31) = nI k := by decide +kernel
set_option maxHeartbeats 4000000 in
set_option maxRecDepth 100000 in
theorem c_J0_getBytes (l : Launch) (hlf : l.stackTraces = false) (g : GC) (M0 M : HM) (a n d : Nat) (z : Value) (f : Nat → Int32) (h0 : ∀ q e, M0 q = some e → M q = some e ∧ q ≠ a ∧ q ≠ d) (hA : M a = some (.inr (8, [.ref d, .int 0, z, .int (nI n)]))) (hD : M d = some (.inl (gD g, 16, .inl f))) (hf : BtOk 16 f) (i : Nat) (b : List Int32) (hi : lw_by[i]? = some b) (hbt : BtOk b.length (fun j => b.getD j 0)) (hn : n + b.length ≤ 16) : KMo g l yJ0_getBytes_840e7 cJ0_getBytes_840e7 4 none 2 0 0 [.ref (g.2.2.2.1 i), .ref d, .int (nI n), .int 0] M (fun v M1 => v = none ∧ ∃ f1, BtOk 16 f1 ∧ M1 = upM M d (.inl (gD g, 16, .inl f1))) := by
  refine k_metho hlf (by decide) (Nat.le_of_ble_eq_true rfl) fun p e s m below meth c ls hc hr hin2 hnx hM hS hl => ?_
  have hc : Cx g p l s m [.ref (g.2.2.2.1 i), .ref d, .int (nI n), .int 0].toArray meth c cJ0_getBytes_840e7 4 RJ0 := hc
  have hx := hc.1
  have hb := hc.2.1
  have hl : lv_has ls 4 [(0, .ref (g.2.2.2.1 i)), (1, .ref d), (2, .int (nI n)), (3, .int 0)] := hl
  refine lv_aload_n hx hb dJ0_getBytes_840e7_0 rfl (lv_at hl 0 rfl) ?_
  refine k_VJ hc [] hi cw_J0_335 dJ0_getBytes_840e7_1 (c_J0_coder l hlf g _ i b hi) hM hS hl.1 rfl rfl ⟨Nat.le_of_ble_eq_true rfl, Nat.le_of_ble_eq_true rfl⟩ ⟨Nat.le_of_ble_eq_true rfl, Nat.le_of_ble_eq_true rfl⟩ (Nat.le_of_ble_eq_true rfl) (fun H locs hM hS => ?_)
  refine lv_iload_n hx hb dJ0_getBytes_840e7_4 rfl (lv_at hl 3 rfl) ?_
  refine lv_icmp_ne (tgt := 28) hx hb dJ0_getBytes_840e7_5 (by decide) (fun h => absurd rfl h) (fun _ => ?_)
  refine lv_aload_n hx hb dJ0_getBytes_840e7_8 rfl (lv_at hl 0 rfl) ?_
  refine vk_getf hx hb (k_strS hc hi).2.2.1 hS hc.2.2.2.1 (hc.2.2.2.2.1 _ qf_J0_9) (fun _ h => h) dJ0_getBytes_840e7_9 ?_
  refine lv_iconst (v := 0) hx hb dJ0_getBytes_840e7_12 (by decide) ?_
  refine lv_aload_n hx hb dJ0_getBytes_840e7_13 rfl (lv_at hl 1 rfl) ?_
  refine lv_iload_n hx hb dJ0_getBytes_840e7_14 rfl (lv_at hl 2 rfl) ?_
  refine lv_iload_n hx hb dJ0_getBytes_840e7_15 rfl (lv_at hl 3 rfl) ?_
  refine lv_ishl hx hb dJ0_getBytes_840e7_16 ?_
  rw [shl_0 n (by omega)]
  refine lv_aload_n hx hb dJ0_getBytes_840e7_17 rfl (lv_at hl 0 rfl) ?_
  refine vk_getf hx hb (k_strS hc hi).2.2.1 hS hc.2.2.2.1 (hc.2.2.2.2.1 _ qf_J0_9) (fun _ h => h) dJ0_getBytes_840e7_18 ?_
  refine va_tlen hx hb (k_strS hc hi).2.2.2 hS (show Int32.ofNat b.length = nI b.length from rfl) dJ0_getBytes_840e7_21 ?_
  obtain ⟨cell, t1, ⟨hst9, kA, hkA, comp, hkind⟩, t3, t4, t5, t6, t7⟩ := (k_strS hc hi).2.2.2
  have tH : H[g.2.2.2.2 i]? = some cell := by rw [hS.2.1 _ (Array.getElem?_eq_some_iff.mp t1).1 t7]; exact t1
  refine k_copyB hc q_J0_212 hkA hkind t3 hst9 t4 (F := fun j => b.getD j 0) t6 hbt hf tH hD hM hS hl.1 (by decide) (nI_pos (by omega)) (nI_pos (by omega)) (by rw [nI_clamp (by omega)]; show 0 + _ ≤ _; omega) (by rw [nI_clamp (by omega), nI_clamp (by omega)]; omega) ⟨Nat.le_of_ble_eq_true rfl, Nat.le_of_ble_eq_true rfl⟩ dJ0_getBytes_840e7_22 (fun H locs f1 hf1 hM hS => ?_)
  refine lv_goto (tgt := 43) hx hb dJ0_getBytes_840e7_25 (by decide) ?_
  exact k_ovret hc hr dJ0_getBytes_840e7_43 hM hS (Nat.le_of_ble_eq_true rfl) (Nat.le_of_ble_eq_true rfl) ⟨rfl, f1, hf1, rfl⟩
set_option maxHeartbeats 4000000 in
set_option maxRecDepth 100000 in
theorem c_J5_putStringAt (l : Launch) (hlf : l.stackTraces = false) (g : GC) (M0 M : HM) (a n d : Nat) (z : Value) (f : Nat → Int32) (h0 : ∀ q e, M0 q = some e → M q = some e ∧ q ≠ a ∧ q ≠ d) (hA : M a = some (.inr (8, [.ref d, .int 0, z, .int (nI n)]))) (hD : M d = some (.inl (gD g, 16, .inl f))) (hf : BtOk 16 f) (i : Nat) (b : List Int32) (hi : lw_by[i]? = some b) (hbt : BtOk b.length (fun j => b.getD j 0)) (hn : n + b.length ≤ 16) : KMo g l yJ5_putStringAt_47b60 cJ5_putStringAt_47b60 3 none 3 0 0 [.ref a, .int (nI n), .ref (g.2.2.2.1 i)] M (fun v M1 => v = none ∧ ∃ f1, BtOk 16 f1 ∧ M1 = upM M d (.inl (gD g, 16, .inl f1))) := by
  refine k_metho hlf (by decide) (Nat.le_of_ble_eq_true rfl) fun p e s m below meth c ls hc hr hin2 hnx hM hS hl => ?_
  have hc : Cx g p l s m [.ref a, .int (nI n), .ref (g.2.2.2.1 i)].toArray meth c cJ5_putStringAt_47b60 3 RJ5 := hc
  have hx := hc.1
  have hb := hc.2.1
  have hl : lv_has ls 3 [(0, .ref a), (1, .int (nI n)), (2, .ref (g.2.2.2.1 i))] := hl
  have hB : SbW g M0 a n M := ⟨d, z, f, h0, hA, hD, hf⟩
  refine lv_aload_n hx hb dJ5_putStringAt_47b60_0 rfl (lv_at hl 0 rfl) ?_
  refine lv_aload_n hx hb dJ5_putStringAt_47b60_1 rfl (lv_at hl 2 rfl) ?_
  refine k_goZ hc (C := RJ4) (ci := 8) (n := 1) [.ref (g.2.2.2.1 i)] rfl q_J5_397 ⟨by decide, by decide⟩ qc_J5_inflateIfNeededFor_a7421 qn_AbstractStringBuilder (fun _ cls _ => sel_priv hc qi_J5_inflateIfNeededFor_a7421 qc_J5_inflateIfNeededFor_a7421 qy_inflateIf (by decide) rfl (by decide +kernel) cls) dJ5_putStringAt_47b60_2 (c_J5_inflateIf l hlf g M0 M a n hB i b hi) hA hM hS hl.1 rfl rfl ⟨Nat.le_of_ble_eq_true rfl, Nat.le_of_ble_eq_true rfl⟩ ⟨Nat.le_of_ble_eq_true rfl, Nat.le_of_ble_eq_true rfl⟩ (Nat.le_of_ble_eq_true rfl) (fun v M1 H locs hs hM hS => ?_)
  obtain ⟨hv, h1⟩ := hs
  subst hv
  rw [h1] at hM
  refine lv_aload_n hx hb dJ5_putStringAt_47b60_5 rfl (lv_at hl 2 rfl) ?_
  refine lv_aload_n hx hb dJ5_putStringAt_47b60_6 rfl (lv_at hl 0 rfl) ?_
  refine k_get hc (T := TJ4) in_J4 rfl 0 (by decide) qf_J5_15 rfl dJ5_putStringAt_47b60_7 hM hA rfl ?_
  refine lv_iload_n hx hb dJ5_putStringAt_47b60_10 rfl (lv_at hl 1 rfl) ?_
  refine lv_aload_n hx hb dJ5_putStringAt_47b60_11 rfl (lv_at hl 0 rfl) ?_
  refine k_get hc (T := TJ4) in_J4 rfl 1 (by decide) qf_J5_22 rfl dJ5_putStringAt_47b60_12 hM hA rfl ?_
  refine k_VJo hc [.ref d, .int (nI n), .int 0] hi cwb_getBytes dJ5_putStringAt_47b60_15 (c_J0_getBytes l hlf g M0 M a n d z f h0 hA hD hf i b hi hbt hn) hM hS hl.1 rfl rfl ⟨Nat.le_of_ble_eq_true rfl, Nat.le_of_ble_eq_true rfl⟩ ⟨Nat.le_of_ble_eq_true rfl, Nat.le_of_ble_eq_true rfl⟩ (Nat.le_of_ble_eq_true rfl) (fun v M1 H locs hs hM hS => ?_)
  obtain ⟨hv, f1, hf1, h1⟩ := hs
  subst hv
  rw [h1] at hM
  exact k_ovret hc hr dJ5_putStringAt_47b60_18 hM hS (Nat.le_of_ble_eq_true rfl) (Nat.le_of_ble_eq_true rfl) ⟨rfl, f1, hf1, rfl⟩
set_option maxHeartbeats 4000000 in
set_option maxRecDepth 100000 in
theorem c_J5_appendS (l : Launch) (hlf : l.stackTraces = false) (g : GC) (M0 M : HM) (a n : Nat) (hB : SbW g M0 a n M) (i : Nat) (b : List Int32) (hi : lw_by[i]? = some b) (hbt : BtOk b.length (fun j => b.getD j 0)) (hn : n + b.length ≤ 16) : KMo g l yJ5_append_cf1ce cJ5_append_cf1ce 3 (some (.object "java/lang/AbstractStringBuilder")) 4 0 0 [.ref a, .ref (g.2.2.2.1 i)] M (fun v M1 => v = some (.ref a) ∧ SbW g M0 a (n + b.length) M1) := by
  refine k_metho hlf (by decide) (Nat.le_of_ble_eq_true rfl) fun p e s m below meth c ls hc hr hin2 hnx hM hS hl => ?_
  have hc : Cx g p l s m [.ref a, .ref (g.2.2.2.1 i)].toArray meth c cJ5_append_cf1ce 3 RJ5 := hc
  have hx := hc.1
  have hb := hc.2.1
  have hl : lv_has ls 3 [(0, .ref a), (1, .ref (g.2.2.2.1 i))] := hl
  have hB9 := hB
  obtain ⟨d, z, f, h0, hA, hD, hf⟩ := hB
  refine lv_aload_n hx hb dJ5_append_cf1ce_0 rfl (lv_at hl 1 rfl) ?_
  refine lv_ifnonnull (tgt := 9) hx hb dJ5_append_cf1ce_1 (by decide) ?_
  refine lv_aload_n hx hb dJ5_append_cf1ce_9 rfl (lv_at hl 1 rfl) ?_
  refine k_VJ hc [] hi cwb_len5 dJ5_append_cf1ce_10 (c_J0_length l hlf g _ i b hi (by omega)) hM hS hl.1 rfl rfl ⟨Nat.le_of_ble_eq_true rfl, Nat.le_of_ble_eq_true rfl⟩ ⟨Nat.le_of_ble_eq_true rfl, Nat.le_of_ble_eq_true rfl⟩ (Nat.le_of_ble_eq_true rfl) (fun H locs hM hS => ?_)
  refine lv_istore_n (lv' := [(2, .int (nI b.length)), (0, .ref a), (1, .ref (g.2.2.2.1 i))]) hx hb dJ5_append_cf1ce_13 rfl hl (by decide) rfl (fun ls hl => ?_)
  refine lv_aload_n hx hb dJ5_append_cf1ce_14 rfl (lv_at hl 1 rfl) ?_
  refine lv_aload_n hx hb dJ5_append_cf1ce_15 rfl (lv_at hl 1 rfl) ?_
  refine k_get hc (T := TJ4) in_J4 rfl 3 (by decide) qf_J5_79 rfl dJ5_append_cf1ce_16 hM hA rfl ?_
  refine lv_iload_n hx hb dJ5_append_cf1ce_19 rfl (lv_at hl 0 rfl) ?_
  refine lv_iadd hx hb dJ5_append_cf1ce_20 ?_
  rw [nI_add]
  refine k_goZ hc (C := RJ4) (ci := 8) (n := 1) [.int (nI (n + b.length))] rfl q_J5_100 ⟨by decide, by decide⟩ qc_J5_ensureCapacityInternal_d00df qn_AbstractStringBuilder (fun _ cls _ => sel_priv hc qi_J5_ensureCapacityInternal_d00df qc_J5_ensureCapacityInternal_d00df qy_ensure (by decide) rfl (by decide +kernel) cls) dJ5_append_cf1ce_21 (c_J5_ensure l hlf g M0 M a n hB9 (n + b.length) hn) hA hM hS hl.1 rfl rfl ⟨Nat.le_of_ble_eq_true rfl, Nat.le_of_ble_eq_true rfl⟩ ⟨Nat.le_of_ble_eq_true rfl, Nat.le_of_ble_eq_true rfl⟩ (Nat.le_of_ble_eq_true rfl) (fun v M1 H locs hs hM hS => ?_)
  obtain ⟨hv, h1⟩ := hs
  subst hv
  rw [h1] at hM
  refine lv_aload_n hx hb dJ5_append_cf1ce_24 rfl (lv_at hl 1 rfl) ?_
  refine lv_aload_n hx hb dJ5_append_cf1ce_25 rfl (lv_at hl 1 rfl) ?_
  refine k_get hc (T := TJ4) in_J4 rfl 3 (by decide) qf_J5_79 rfl dJ5_append_cf1ce_26 hM hA rfl ?_
  refine lv_aload_n hx hb dJ5_append_cf1ce_29 rfl (lv_at hl 2 rfl) ?_
  refine k_goZ hc (C := RJ4) (ci := 8) (n := 2) [.int (nI n), .ref (g.2.2.2.1 i)] rfl q_J5_208 ⟨by decide, by decide⟩ qc_J5_putStringAt_47b60 qn_AbstractStringBuilder (fun _ cls _ => sel_priv hc qi_J5_putStringAt_47b60 qc_J5_putStringAt_47b60 qy_putStringAt (by decide) rfl (by decide +kernel) cls) dJ5_append_cf1ce_30 (c_J5_putStringAt l hlf g M0 M a n d z f h0 hA hD hf i b hi hbt hn) hA hM hS hl.1 rfl rfl ⟨Nat.le_of_ble_eq_true rfl, Nat.le_of_ble_eq_true rfl⟩ ⟨Nat.le_of_ble_eq_true rfl, Nat.le_of_ble_eq_true rfl⟩ (Nat.le_of_ble_eq_true rfl) (fun v M1 H locs hs hM hS => ?_)
  obtain ⟨hv, f1, hf1, h1⟩ := hs
  subst hv
  subst h1
  obtain ⟨d, z, f, h0, hA, hD, hf⟩ := SbW.setD h0 hA hD hf1
  refine lv_aload_n hx hb dJ5_append_cf1ce_33 rfl (lv_at hl 1 rfl) ?_
  refine lv_dup hx hb dJ5_append_cf1ce_34 rfl ?_
  refine k_get hc (T := TJ4) in_J4 rfl 3 (by decide) qf_J5_79 rfl dJ5_append_cf1ce_35 hM hA rfl ?_
  refine lv_iload_n hx hb dJ5_append_cf1ce_38 rfl (lv_at hl 0 rfl) ?_
  refine lv_iadd hx hb dJ5_append_cf1ce_39 ?_
  rw [nI_add]
  refine k_put hc (T := TJ4) in_J4 tyJ4 tyJ4_ok nmJ4 rfl 3 (by decide) qf_J5_79 rfl rfl dJ5_append_cf1ce_40 hM hS hA rfl rfl (Nat.le_of_ble_eq_true rfl) (fun H locs hM hS => ?_)
  refine lv_aload_n hx hb dJ5_append_cf1ce_43 rfl (lv_at hl 1 rfl) ?_
  exact k_oaret hc (Or.inl ⟨_, rfl⟩) hr dJ5_append_cf1ce_44 hM hS (Nat.le_of_ble_eq_true rfl) (Nat.le_of_ble_eq_true rfl) ⟨rfl, SbW.setN h0 hA hD hf⟩
set_option maxHeartbeats 4000000 in
set_option maxRecDepth 100000 in
theorem c_J4_appendS (l : Launch) (hlf : l.stackTraces = false) (g : GC) (M0 M : HM) (a n : Nat) (hB : SbW g M0 a n M) (i : Nat) (b : List Int32) (hi : lw_by[i]? = some b) (hbt : BtOk b.length (fun j => b.getD j 0)) (hn : n + b.length ≤ 16) : KMo g l yJ4_append_15ec4 cJ4_append_15ec4 2 (some (.object "java/lang/StringBuilder")) 5 0 0 [.ref a, .ref (g.2.2.2.1 i)] M (fun v M1 => v = some (.ref a) ∧ SbW g M0 a (n + b.length) M1) := by
  refine k_metho hlf (by decide) (Nat.le_of_ble_eq_true rfl) fun p e s m below meth c ls hc hr hin2 hnx hM hS hl => ?_
  have hc : Cx g p l s m [.ref a, .ref (g.2.2.2.1 i)].toArray meth c cJ4_append_15ec4 2 RJ4 := hc
  have hx := hc.1
  have hb := hc.2.1
  have hl : lv_has ls 2 [(0, .ref a), (1, .ref (g.2.2.2.1 i))] := hl
  have hB9 := hB
  obtain ⟨d, z, f, h0, hA, hD, hf⟩ := hB
  refine lv_aload_n hx hb dJ4_append_15ec4_0 rfl (lv_at hl 0 rfl) ?_
  refine lv_aload_n hx hb dJ4_append_15ec4_1 rfl (lv_at hl 1 rfl) ?_
  refine k_goY hc (C := RJ4) (ci := 8) (n := 1) [.ref (g.2.2.2.1 i)] rfl q_J4_29 qc_J5_append_cf1ce qn_AbstractStringBuilder (sup_sb hc qi_J5_append_cf1ce qc_J5_append_cf1ce qy_appendS qy_super rfl (by decide) (by decide +kernel)) dJ4_append_15ec4_2 (c_J5_appendS l hlf g M0 M a n hB9 i b hi hbt hn) hA hM hS hl.1 rfl rfl ⟨Nat.le_of_ble_eq_true rfl, Nat.le_of_ble_eq_true rfl⟩ ⟨Nat.le_of_ble_eq_true rfl, Nat.le_of_ble_eq_true rfl⟩ (Nat.le_of_ble_eq_true rfl) (fun v M1 H locs hs hM hS => ?_)
  obtain ⟨hv, h1⟩ := hs
  subst hv
  refine lv_pop hx hb dJ4_append_15ec4_5 rfl ?_
  refine lv_aload_n hx hb dJ4_append_15ec4_6 rfl (lv_at hl 0 rfl) ?_
  exact k_oaret hc (Or.inl ⟨_, rfl⟩) hr dJ4_append_15ec4_7 hM hS (Nat.le_of_ble_eq_true rfl) (Nat.le_of_ble_eq_true rfl) ⟨rfl, h1⟩
def szD (w : Nat) : Nat := if w < 10 then 1 else 2
theorem sz_1 : ∀ w : Nat, w < 10 → ¬ (-nI w ≤ -10) := by decide +kernel
theorem sz_2 : ∀ w : Nat, w < 100 → 10 ≤ w → -nI w ≤ -10 := by decide +kernel
theorem sz_3 : ∀ w : Nat, w < 100 → ¬ (-nI w ≤ 10 * -10) := by decide +kernel
theorem sz_4 : ∀ w : Nat, w < 100 → -nI w > -100 := by decide +kernel
theorem sz_5 : ∀ w : Nat, w < 10 → -nI w ≥ -9 := by decide +kernel
theorem sz_6 : ∀ w : Nat, w < 100 → 10 ≤ w → ¬ (-nI w ≥ -9) := by decide +kernel
theorem sz_7 : ∀ w : Nat, w < 100 → - -nI w = nI w := by decide +kernel
theorem dec_1 : ∀ k : Nat, k < 20 → nI (k + 1) + Int32.ofInt (-1) = nI k := by decide +kernel
set_option maxHeartbeats 4000000 in
set_option maxRecDepth 100000 in
theorem c_J6_size (l : Launch) (hlf : l.stackTraces = false) (g : GC) (M : HM) (w : Nat) (hw : w < 100) : KMo g l yJ6_stringSize_0f7a4 cJ6_stringSize_0f7a4 4 (some .int) 1 0 0 [.int (nI w)] M (fun v M1 => v = some (.int (nI (szD w))) ∧ M1 = M) := by
  refine k_metho hlf (by decide) (Nat.le_of_ble_eq_true rfl) fun p e s m below meth c ls hc hr hin2 hnx hM hS hl => ?_
  have hc : Cx g p l s m [.int (nI w)].toArray meth c cJ6_stringSize_0f7a4 4 RJ6 := hc
  have hx := hc.1
  have hb := hc.2.1
  have hl : lv_has ls 4 [(0, .int (nI w))] := hl
  refine lv_iconst (v := 1) hx hb dJ6_stringSize_0f7a4_0 (by decide) ?_
  refine lv_istore_n (lv' := [(1, .int 1), (0, .int (nI w))]) hx hb dJ6_stringSize_0f7a4_1 rfl hl (by decide) rfl (fun ls hl => ?_)
  refine lv_iload_n hx hb dJ6_stringSize_0f7a4_2 rfl (lv_at hl 1 rfl) ?_
  refine lv_if_lt (tgt := 11) hx hb dJ6_stringSize_0f7a4_3 (by decide) (fun h => absurd h (nI_pos (by omega))) (fun _ => ?_)
  refine lv_iconst (v := 0) hx hb dJ6_stringSize_0f7a4_6 (by decide) ?_
  refine lv_istore_n (lv' := [(1, .int 0), (0, .int (nI w))]) hx hb dJ6_stringSize_0f7a4_7 rfl hl (by decide) rfl (fun ls hl => ?_)
  refine lv_iload_n hx hb dJ6_stringSize_0f7a4_8 rfl (lv_at hl 1 rfl) ?_
  refine lv_ineg hx hb dJ6_stringSize_0f7a4_9 ?_
  refine lv_istore_n (lv' := [(0, .int (-nI w)), (1, .int 0)]) hx hb dJ6_stringSize_0f7a4_10 rfl hl (by decide) rfl (fun ls hl => ?_)
  refine lv_bipush (v := -10) hx hb dJ6_stringSize_0f7a4_11 (by decide) ?_
  refine lv_istore_n (lv' := [(2, .int (-10)), (0, .int (-nI w)), (1, .int 0)]) hx hb dJ6_stringSize_0f7a4_13 rfl hl (by decide) rfl (fun ls hl => ?_)
  refine lv_iconst (v := 1) hx hb dJ6_stringSize_0f7a4_14 (by decide) ?_
  refine lv_istore_n (lv' := [(3, .int 1), (2, .int (-10)), (0, .int (-nI w)), (1, .int 0)]) hx hb dJ6_stringSize_0f7a4_15 rfl hl (by decide) rfl (fun ls hl => ?_)
  refine lv_iload_n hx hb dJ6_stringSize_0f7a4_16 rfl (lv_at hl 0 rfl) ?_
  refine lv_bipush (v := 10) hx hb dJ6_stringSize_0f7a4_17 (by decide) ?_
  refine lv_icmp_ge (tgt := 42) hx hb dJ6_stringSize_0f7a4_19 (by decide) (fun h => absurd h (by decide)) (fun _ => ?_)
  refine lv_iload_n hx hb dJ6_stringSize_0f7a4_22 rfl (lv_at hl 2 rfl) ?_
  refine lv_iload_n hx hb dJ6_stringSize_0f7a4_23 rfl (lv_at hl 1 rfl) ?_
  refine lv_icmp_le (tgt := 31) hx hb dJ6_stringSize_0f7a4_24 (by decide) (fun h => ?_) (fun h => ?_)
  · have h9 : ¬ w < 10 := fun q => sz_1 w q h
    refine lv_bipush (v := 10) hx hb dJ6_stringSize_0f7a4_31 (by decide) ?_
    refine lv_iload_n hx hb dJ6_stringSize_0f7a4_33 rfl (lv_at hl 1 rfl) ?_
    refine lv_imul hx hb dJ6_stringSize_0f7a4_34 ?_
    refine lv_istore_n (lv' := [(2, .int (10 * -10)), (3, .int 1), (0, .int (-nI w)), (1, .int 0)]) hx hb dJ6_stringSize_0f7a4_35 rfl hl (by decide) rfl (fun ls hl => ?_)
    refine lv_iinc (v := 2) (lv' := [(3, .int 2), (2, .int (10 * -10)), (0, .int (-nI w)), (1, .int 0)]) hx hb dJ6_stringSize_0f7a4_36 hl (k := 1) rfl (by decide) (by decide) rfl (fun ls hl => ?_)
    refine lv_goto (tgt := 16) hx hb dJ6_stringSize_0f7a4_39 (by decide) ?_
    refine lv_iload_n hx hb dJ6_stringSize_0f7a4_16 rfl (lv_at hl 0 rfl) ?_
    refine lv_bipush (v := 10) hx hb dJ6_stringSize_0f7a4_17 (by decide) ?_
    refine lv_icmp_ge (tgt := 42) hx hb dJ6_stringSize_0f7a4_19 (by decide) (fun h => absurd h (by decide)) (fun _ => ?_)
    refine lv_iload_n hx hb dJ6_stringSize_0f7a4_22 rfl (lv_at hl 2 rfl) ?_
    refine lv_iload_n hx hb dJ6_stringSize_0f7a4_23 rfl (lv_at hl 1 rfl) ?_
    refine lv_icmp_le (tgt := 31) hx hb dJ6_stringSize_0f7a4_24 (by decide) (fun h => absurd h (sz_3 w hw)) (fun h => ?_)
    refine lv_iload_n hx hb dJ6_stringSize_0f7a4_27 rfl (lv_at hl 0 rfl) ?_
    refine lv_iload_n hx hb dJ6_stringSize_0f7a4_28 rfl (lv_at hl 3 rfl) ?_
    refine lv_iadd hx hb dJ6_stringSize_0f7a4_29 ?_
    exact k_oret hc (Or.inl hr) dJ6_stringSize_0f7a4_30 hM hS (fun ty h => by rw [hr] at h; cases h; rfl) (Nat.le_of_ble_eq_true rfl) (Nat.le_of_ble_eq_true rfl) ⟨by unfold szD; rw [if_neg h9]; rfl, rfl⟩
  · have h9 : w < 10 := by
      rcases Nat.lt_or_ge w 10 with q | q
      · exact q
      · exact absurd (sz_2 w hw q) h
    refine lv_iload_n hx hb dJ6_stringSize_0f7a4_27 rfl (lv_at hl 0 rfl) ?_
    refine lv_iload_n hx hb dJ6_stringSize_0f7a4_28 rfl (lv_at hl 3 rfl) ?_
    refine lv_iadd hx hb dJ6_stringSize_0f7a4_29 ?_
    exact k_oret hc (Or.inl hr) dJ6_stringSize_0f7a4_30 hM hS (fun ty h => by rw [hr] at h; cases h; rfl) (Nat.le_of_ble_eq_true rfl) (Nat.le_of_ble_eq_true rfl) ⟨by unfold szD; rw [if_pos h9]; rfl, rfl⟩
set_option maxHeartbeats 4000000 in
set_option maxRecDepth 100000 in
theorem c_J6_chars (l : Launch) (hlf : l.stackTraces = false) (g : GC) (M : HM) (w k d : Nat) (f : Nat → Int32) (hw : w < 100) (hk : szD w ≤ k) (hk2 : k ≤ 16) (hD : M d = some (.inl (gD g, 16, .inl f))) (hf : BtOk 16 f) : KMo g l yJ6_getChars_ba4f3 cJ6_getChars_ba4f3 7 (some .int) 1 0 0 [.int (nI w), .int (nI k), .ref d] M (fun v M1 => ∃ (v9 : Int32) (f1 : Nat → Int32), v = some (.int v9) ∧ BtOk 16 f1 ∧ M1 = upM M d (.inl (gD g, 16, .inl f1))) := by
  refine k_metho hlf (by decide) (Nat.le_of_ble_eq_true rfl) fun p e s m below meth c ls hc hr hin2 hnx hM hS hl => ?_
  have hc : Cx g p l s m [.int (nI w), .int (nI k), .ref d].toArray meth c cJ6_getChars_ba4f3 7 RJ6 := hc
  have hx := hc.1
  have hb := hc.2.1
  have hl : lv_has ls 7 [(0, .int (nI w)), (1, .int (nI k)), (2, .ref d)] := hl
  have hk1 : 1 ≤ k := by
    unfold szD at hk
    split at hk <;> omega
  obtain ⟨k1, rfl⟩ : ∃ k1, k = k1 + 1 := ⟨k - 1, by omega⟩
  refine lv_iload_n hx hb dJ6_getChars_ba4f3_0 rfl (lv_at hl 1 rfl) ?_
  refine lv_istore (lv' := [(5, .int (nI (k1 + 1))), (0, .int (nI w)), (1, .int (nI (k1 + 1))), (2, .ref d)]) hx hb dJ6_getChars_ba4f3_1 hl (by decide) rfl (fun ls hl => ?_)
  refine lv_iload_n hx hb dJ6_getChars_ba4f3_3 rfl (lv_at hl 1 rfl) ?_
  refine lv_if_ge (tgt := 11) hx hb dJ6_getChars_ba4f3_4 (by decide) (fun _ => ?_) (fun h => absurd (Int32.not_lt.mp (nI_pos (by omega))) h)
  refine lv_iconst (v := 0) hx hb dJ6_getChars_ba4f3_11 (by decide) ?_
  refine lv_istore (lv' := [(6, .int 0), (5, .int (nI (k1 + 1))), (0, .int (nI w)), (1, .int (nI (k1 + 1))), (2, .ref d)]) hx hb dJ6_getChars_ba4f3_12 hl (by decide) rfl (fun ls hl => ?_)
  refine lv_iload hx hb dJ6_getChars_ba4f3_14 (lv_at hl 0 rfl) ?_
  refine lv_if_ne (tgt := 22) hx hb dJ6_getChars_ba4f3_16 (by decide) (fun h => absurd rfl h) (fun _ => ?_)
  refine lv_iload_n hx hb dJ6_getChars_ba4f3_19 rfl (lv_at hl 2 rfl) ?_
  refine lv_ineg hx hb dJ6_getChars_ba4f3_20 ?_
  refine lv_istore_n (lv' := [(0, .int (-nI w)), (6, .int 0), (5, .int (nI (k1 + 1))), (1, .int (nI (k1 + 1))), (2, .ref d)]) hx hb dJ6_getChars_ba4f3_21 rfl hl (by decide) rfl (fun ls hl => ?_)
  refine lv_iload_n hx hb dJ6_getChars_ba4f3_22 rfl (lv_at hl 0 rfl) ?_
  refine lv_bipush (v := -100) hx hb dJ6_getChars_ba4f3_23 (by decide) ?_
  refine lv_icmp_gt (tgt := 72) hx hb dJ6_getChars_ba4f3_25 (by decide) (fun _ => ?_) (fun h => absurd (sz_4 w hw) h)
  refine lv_aload_n hx hb dJ6_getChars_ba4f3_72 rfl (lv_at hl 4 rfl) ?_
  refine lv_iinc (v := nI k1) (lv' := [(5, .int (nI k1)), (0, .int (-nI w)), (6, .int 0), (1, .int (nI (k1 + 1))), (2, .ref d)]) hx hb dJ6_getChars_ba4f3_73 hl (k := 2) rfl (dec_1 k1 (by omega)) (by decide) rfl (fun ls hl => ?_)
  refine lv_iload hx hb dJ6_getChars_ba4f3_76 (lv_at hl 0 rfl) ?_
  refine k_dig1 hc hS qf_J6_83 dJ6_getChars_ba4f3_78 (fun d1 F hT hI => ?_)
  refine lv_iload_n hx hb dJ6_getChars_ba4f3_81 rfl (lv_at hl 1 rfl) ?_
  refine lv_ineg hx hb dJ6_getChars_ba4f3_82 ?_
  rw [sz_7 w hw]
  obtain ⟨v1, hv1⟩ := hI w hw
  refine va_tb (v := .int v1) hx hb hT hS (vp_in_nI hw (by omega)) (by rw [nI_clamp (by omega)]; exact hv1) dJ6_getChars_ba4f3_83 ?_
  refine k_bast hc hM hS hD (vp_in_nI (show k1 < 16 by omega) (by omega)) dJ6_getChars_ba4f3_84 (fun H locs f1 hf1 hM hS => ?_)
  have hf1 := hf1 hf
  refine lv_iload_n hx hb dJ6_getChars_ba4f3_85 rfl (lv_at hl 1 rfl) ?_
  refine lv_bipush (v := -9) hx hb dJ6_getChars_ba4f3_86 (by decide) ?_
  refine lv_icmp_ge (tgt := 104) hx hb dJ6_getChars_ba4f3_88 (by decide) (fun h => ?_) (fun h => ?_)
  · refine lv_iload hx hb dJ6_getChars_ba4f3_104 (lv_at hl 2 rfl) ?_
    refine lv_if_eq (tgt := 118) hx hb dJ6_getChars_ba4f3_106 (by decide) (fun _ => ?_) (fun h => absurd rfl h)
    refine lv_iload hx hb dJ6_getChars_ba4f3_118 (lv_at hl 0 rfl) ?_
    exact k_oret hc (Or.inl hr) dJ6_getChars_ba4f3_120 hM hS (fun ty h => by rw [hr] at h; cases h; rfl) (Nat.le_of_ble_eq_true rfl) (Nat.le_of_ble_eq_true rfl) ⟨_, f1, rfl, hf1, rfl⟩
  · have h9 : ¬ w < 10 := fun q => h (sz_5 w q)
    have hk3 : szD w = 2 := by
      unfold szD
      rw [if_neg h9]
    obtain ⟨k2, rfl⟩ : ∃ k2, k1 = k2 + 1 := ⟨k1 - 1, by omega⟩
    refine lv_aload_n hx hb dJ6_getChars_ba4f3_91 rfl (lv_at hl 4 rfl) ?_
    refine lv_iinc (v := nI k2) (lv' := [(5, .int (nI k2)), (0, .int (-nI w)), (6, .int 0), (1, .int (nI (k2 + 1 + 1))), (2, .ref d)]) hx hb dJ6_getChars_ba4f3_92 hl (k := 0) rfl (dec_1 k2 (by omega)) (by decide) rfl (fun ls hl => ?_)
    refine lv_iload hx hb dJ6_getChars_ba4f3_95 (lv_at hl 0 rfl) ?_
    refine k_dig2 hc hS qf_J6_87 dJ6_getChars_ba4f3_97 (fun d2 F2 hT2 hI2 => ?_)
    refine lv_iload_n hx hb dJ6_getChars_ba4f3_100 rfl (lv_at hl 1 rfl) ?_
    refine lv_ineg hx hb dJ6_getChars_ba4f3_101 ?_
    rw [sz_7 w hw]
    obtain ⟨v2, hv2⟩ := hI2 w hw
    refine va_tb (v := .int v2) hx hb hT2 hS (vp_in_nI hw (by omega)) (by rw [nI_clamp (by omega)]; exact hv2) dJ6_getChars_ba4f3_102 ?_
    refine k_bast hc hM hS (upM_at (M := M)) (vp_in_nI (show k2 < 16 by omega) (by omega)) dJ6_getChars_ba4f3_103 (fun H locs f2 hf2 hM hS => ?_)
    have hf2 := hf2 hf1
    rw [upM_upM] at hM
    refine lv_iload hx hb dJ6_getChars_ba4f3_104 (lv_at hl 2 rfl) ?_
    refine lv_if_eq (tgt := 118) hx hb dJ6_getChars_ba4f3_106 (by decide) (fun _ => ?_) (fun h => absurd rfl h)
    refine lv_iload hx hb dJ6_getChars_ba4f3_118 (lv_at hl 0 rfl) ?_
    exact k_oret hc (Or.inl hr) dJ6_getChars_ba4f3_120 hM hS (fun ty h => by rw [hr] at h; cases h; rfl) (Nat.le_of_ble_eq_true rfl) (Nat.le_of_ble_eq_true rfl) ⟨_, f2, rfl, hf2, rfl⟩
set_option maxHeartbeats 4000000 in
set_option maxRecDepth 100000 in
theorem c_J5_appendI (l : Launch) (hlf : l.stackTraces = false) (g : GC) (M0 M : HM) (a n : Nat) (hB : SbW g M0 a n M) (w : Nat) (hw : w < 100) (hn : n + szD w ≤ 16) : KMo g l yJ5_append_c97b9 cJ5_append_c97b9 4 (some (.object "java/lang/AbstractStringBuilder")) 2 0 0 [.ref a, .int (nI w)] M (fun v M1 => v = some (.ref a) ∧ SbW g M0 a (n + szD w) M1) := by
  refine k_metho hlf (by decide) (Nat.le_of_ble_eq_true rfl) fun p e s m below meth c ls hc hr hin2 hnx hM hS hl => ?_
  have hc : Cx g p l s m [.ref a, .int (nI w)].toArray meth c cJ5_append_c97b9 4 RJ5 := hc
  have hx := hc.1
  have hb := hc.2.1
  have hl : lv_has ls 4 [(0, .ref a), (1, .int (nI w))] := hl
  have hB9 := hB
  obtain ⟨d, z, f, h0, hA, hD, hf⟩ := hB
  refine lv_aload_n hx hb dJ5_append_c97b9_0 rfl (lv_at hl 0 rfl) ?_
  refine k_get hc (T := TJ4) in_J4 rfl 3 (by decide) qf_J5_79 rfl dJ5_append_c97b9_1 hM hA rfl ?_
  refine lv_istore_n (lv' := [(2, .int (nI n)), (0, .ref a), (1, .int (nI w))]) hx hb dJ5_append_c97b9_4 rfl hl (by decide) rfl (fun ls hl => ?_)
  refine lv_iload_n hx hb dJ5_append_c97b9_5 rfl (lv_at hl 0 rfl) ?_
  refine lv_iload_n hx hb dJ5_append_c97b9_6 rfl (lv_at hl 2 rfl) ?_
  refine k_goSo hc [.int (nI w)] cwb_size dJ5_append_c97b9_7 (c_J6_size l hlf g M w hw) hM hS hl.1 rfl rfl ⟨Nat.le_of_ble_eq_true rfl, Nat.le_of_ble_eq_true rfl⟩ ⟨Nat.le_of_ble_eq_true rfl, Nat.le_of_ble_eq_true rfl⟩ (Nat.le_of_ble_eq_true rfl) (fun v M1 H locs hs hM hS => ?_)
  obtain ⟨hv, h1⟩ := hs
  subst hv
  rw [h1] at hM
  refine lv_iadd hx hb dJ5_append_c97b9_10 ?_
  rw [nI_add]
  refine lv_istore_n (lv' := [(3, .int (nI (n + szD w))), (2, .int (nI n)), (0, .ref a), (1, .int (nI w))]) hx hb dJ5_append_c97b9_11 rfl hl (by decide) rfl (fun ls hl => ?_)
  refine lv_aload_n hx hb dJ5_append_c97b9_12 rfl (lv_at hl 2 rfl) ?_
  refine lv_iload_n hx hb dJ5_append_c97b9_13 rfl (lv_at hl 0 rfl) ?_
  refine k_goZ hc (C := RJ4) (ci := 8) (n := 1) [.int (nI (n + szD w))] rfl q_J5_100 ⟨by decide, by decide⟩ qc_J5_ensureCapacityInternal_d00df qn_AbstractStringBuilder (fun _ cls _ => sel_priv hc qi_J5_ensureCapacityInternal_d00df qc_J5_ensureCapacityInternal_d00df qy_ensure (by decide) rfl (by decide +kernel) cls) dJ5_append_c97b9_14 (c_J5_ensure l hlf g M0 M a n hB9 (n + szD w) hn) hA hM hS hl.1 rfl rfl ⟨Nat.le_of_ble_eq_true rfl, Nat.le_of_ble_eq_true rfl⟩ ⟨Nat.le_of_ble_eq_true rfl, Nat.le_of_ble_eq_true rfl⟩ (Nat.le_of_ble_eq_true rfl) (fun v M1 H locs hs hM hS => ?_)
  obtain ⟨hv, h1⟩ := hs
  subst hv
  rw [h1] at hM
  refine lv_aload_n hx hb dJ5_append_c97b9_17 rfl (lv_at hl 2 rfl) ?_
  refine k_goZ hc (C := RJ4) (ci := 8) (n := 0) [] rfl q_J5_83 ⟨by decide, by decide⟩ qc_J5_isLatin1_aae02 qn_AbstractStringBuilder (sel_inh hc qi_J5_isLatin1_aae02 qc_J5_isLatin1_aae02 qi_J5_isLatin1_aae02 qy_isLatin1 qz_isLatin1 ⟨by decide, by decide⟩ (by decide +kernel)) dJ5_append_c97b9_18 (c_J5_isLatin1 l hlf g M0 M a n hB9) hA hM hS hl.1 rfl rfl ⟨Nat.le_of_ble_eq_true rfl, Nat.le_of_ble_eq_true rfl⟩ ⟨Nat.le_of_ble_eq_true rfl, Nat.le_of_ble_eq_true rfl⟩ (Nat.le_of_ble_eq_true rfl) (fun v M1 H locs hs hM hS => ?_)
  obtain ⟨hv, h1⟩ := hs
  subst hv
  rw [h1] at hM
  refine lv_if_eq (tgt := 37) hx hb dJ5_append_c97b9_21 (by decide) (fun h => absurd h (by decide)) (fun _ => ?_)
  refine lv_iload_n hx hb dJ5_append_c97b9_24 rfl (lv_at hl 3 rfl) ?_
  refine lv_iload_n hx hb dJ5_append_c97b9_25 rfl (lv_at hl 0 rfl) ?_
  refine lv_aload_n hx hb dJ5_append_c97b9_26 rfl (lv_at hl 2 rfl) ?_
  refine k_get hc (T := TJ4) in_J4 rfl 0 (by decide) qf_J5_15 rfl dJ5_append_c97b9_27 hM hA rfl ?_
  refine k_goSo hc [.int (nI w), .int (nI (n + szD w)), .ref d] cwb_chars dJ5_append_c97b9_30 (c_J6_chars l hlf g M w (n + szD w) d f hw (by omega) hn hD hf) hM hS hl.1 rfl rfl ⟨Nat.le_of_ble_eq_true rfl, Nat.le_of_ble_eq_true rfl⟩ ⟨Nat.le_of_ble_eq_true rfl, Nat.le_of_ble_eq_true rfl⟩ (Nat.le_of_ble_eq_true rfl) (fun v M1 H locs hs hM hS => ?_)
  obtain ⟨v9, f1, hv, hf1, h1⟩ := hs
  subst hv
  subst h1
  refine lv_pop hx hb dJ5_append_c97b9_33 rfl ?_
  refine lv_goto (tgt := 48) hx hb dJ5_append_c97b9_34 (by decide) ?_
  obtain ⟨d, z, f, h0, hA, hD, hf⟩ := SbW.setD h0 hA hD hf1
  refine lv_aload_n hx hb dJ5_append_c97b9_48 rfl (lv_at hl 2 rfl) ?_
  refine lv_iload_n hx hb dJ5_append_c97b9_49 rfl (lv_at hl 0 rfl) ?_
  refine k_put hc (T := TJ4) in_J4 tyJ4 tyJ4_ok nmJ4 rfl 3 (by decide) qf_J5_79 rfl rfl dJ5_append_c97b9_50 hM hS hA rfl rfl (Nat.le_of_ble_eq_true rfl) (fun H locs hM hS => ?_)
  refine lv_aload_n hx hb dJ5_append_c97b9_53 rfl (lv_at hl 2 rfl) ?_
  exact k_oaret hc (Or.inl ⟨_, rfl⟩) hr dJ5_append_c97b9_54 hM hS (Nat.le_of_ble_eq_true rfl) (Nat.le_of_ble_eq_true rfl) ⟨rfl, SbW.setN h0 hA hD hf⟩
set_option maxHeartbeats 4000000 in
set_option maxRecDepth 100000 in
theorem c_J4_appendI (l : Launch) (hlf : l.stackTraces = false) (g : GC) (M0 M : HM) (a n : Nat) (hB : SbW g M0 a n M) (w : Nat) (hw : w < 100) (hn : n + szD w ≤ 16) : KMo g l yJ4_append_bf812 cJ4_append_bf812 2 (some (.object "java/lang/StringBuilder")) 3 0 0 [.ref a, .int (nI w)] M (fun v M1 => v = some (.ref a) ∧ SbW g M0 a (n + szD w) M1) := by
  refine k_metho hlf (by decide) (Nat.le_of_ble_eq_true rfl) fun p e s m below meth c ls hc hr hin2 hnx hM hS hl => ?_
  have hc : Cx g p l s m [.ref a, .int (nI w)].toArray meth c cJ4_append_bf812 2 RJ4 := hc
  have hx := hc.1
  have hb := hc.2.1
  have hl : lv_has ls 2 [(0, .ref a), (1, .int (nI w))] := hl
  have hB9 := hB
  obtain ⟨d, z, f, h0, hA, hD, hf⟩ := hB
  refine lv_aload_n hx hb dJ4_append_bf812_0 rfl (lv_at hl 0 rfl) ?_
  refine lv_iload_n hx hb dJ4_append_bf812_1 rfl (lv_at hl 1 rfl) ?_
  refine k_goY hc (C := RJ4) (ci := 8) (n := 1) [.int (nI w)] rfl q_J4_53 qc_J5_append_c97b9 qn_AbstractStringBuilder (sup_sb hc qi_J5_append_c97b9 qc_J5_append_c97b9 qy_appendI qy_super rfl (by decide) (by decide +kernel)) dJ4_append_bf812_2 (c_J5_appendI l hlf g M0 M a n hB9 w hw hn) hA hM hS hl.1 rfl rfl ⟨Nat.le_of_ble_eq_true rfl, Nat.le_of_ble_eq_true rfl⟩ ⟨Nat.le_of_ble_eq_true rfl, Nat.le_of_ble_eq_true rfl⟩ (Nat.le_of_ble_eq_true rfl) (fun v M1 H locs hs hM hS => ?_)
  obtain ⟨hv, h1⟩ := hs
  subst hv
  refine lv_pop hx hb dJ4_append_bf812_5 rfl ?_
  refine lv_aload_n hx hb dJ4_append_bf812_6 rfl (lv_at hl 0 rfl) ?_
  exact k_oaret hc (Or.inl ⟨_, rfl⟩) hr dJ4_append_bf812_7 hM hS (Nat.le_of_ble_eq_true rfl) (Nat.le_of_ble_eq_true rfl) ⟨rfl, h1⟩
theorem sb_new {g : GC} {M0 M : HM} {a d : Nat} {A B : va_E} (h0 : ∀ q e, M0 q = some e → M q = some e ∧ q ≠ a) (hA : M a = some B) (hno : M d = none) : SbW g M0 a 0 (upM (upM (upM M d (.inl (gD g, 16, .inl (fun _ => 0)))) a A) a (.inr (8, [.ref d, .int 0, .int 0, .int (nI 0)]))) := by
  have hda : d ≠ a := fun q => by rw [q, hA] at hno; cases hno
  refine ⟨d, .int 0, fun _ => 0, fun q e hq => ?_, upM_at, ?_, fun j _ => by show fits .byte (.int 0) = true; decide⟩
  · obtain ⟨h1, h2⟩ := h0 q e hq
    have h3 : q ≠ d := fun h => by rw [h, hno] at h1; cases h1
    exact ⟨by rw [upM_ne h2, upM_ne h2, upM_ne h3]; exact h1, h2, h3⟩
  · rw [upM_ne hda, upM_ne hda]
    exact upM_at
set_option maxHeartbeats 4000000 in
set_option maxRecDepth 100000 in
theorem c_J5_init (l : Launch) (hlf : l.stackTraces = false) (g : GC) (M0 M : HM) (a : Nat) (h0 : ∀ q e, M0 q = some e → M q = some e ∧ q ≠ a) (hA : M a = some (.inr (8, [.null, .int 0, .int 0, .int 0]))) : KMo g l yJ5_init_d00df cJ5_init_d00df 2 none 1 1 16 [.ref a, .int 16] M (fun v M1 => v = none ∧ SbW g M0 a 0 M1) := by
  refine k_metho hlf (by decide) (Nat.le_of_ble_eq_true rfl) fun p e s m below meth c ls hc hr hin2 hnx hM hS hl => ?_
  have hc : Cx g p l s m [.ref a, .int 16].toArray meth c cJ5_init_d00df 2 RJ5 := hc
  have hx := hc.1
  have hb := hc.2.1
  have hl : lv_has ls 2 [(0, .ref a), (1, .int 16)] := hl
  refine lv_aload_n hx hb dJ5_init_d00df_0 rfl (lv_at hl 0 rfl) ?_
  refine k_super hc q_J5_3 dJ5_init_d00df_1 hl.1 ⟨Nat.le_of_ble_eq_true rfl, Nat.le_of_ble_eq_true rfl⟩ ?_
  refine va_gets hx hb hc.2.2.2.2.2.1.2.2.2.2.2.2.2.2.1 hS hc.2.2.2.1 (hc.2.2.2.2.1 _ qf_J5_18) (fun _ h => h) dJ5_init_d00df_4 ?_
  refine lv_if_eq (tgt := 25) hx hb dJ5_init_d00df_7 (by decide) (fun h => absurd h (by decide)) (fun _ => ?_)
  refine lv_aload_n hx hb dJ5_init_d00df_10 rfl (lv_at hl 0 rfl) ?_
  refine lv_iload_n hx hb dJ5_init_d00df_11 rfl (lv_at hl 1 rfl) ?_
  refine k_newB hc (N' := 16) (by decide) (by decide) (by omega) dJ5_init_d00df_12 hM hS (Nat.le_of_ble_eq_true rfl) (Nat.le_of_ble_eq_true rfl) (fun d H hno hM hS => ?_)
  have hda : d ≠ a := fun q => by rw [q, hA] at hno; cases hno
  refine k_put hc (T := TJ4) in_J4 tyJ4 tyJ4_ok nmJ4 rfl 0 (by decide) qf_J5_15 rfl rfl dJ5_init_d00df_14 hM hS (show upM M d _ a = _ from (upM_ne hda.symm).trans hA) rfl rfl (Nat.le_of_ble_eq_true rfl) (fun H locs hM hS => ?_)
  refine lv_aload_n hx hb dJ5_init_d00df_17 rfl (lv_at hl 0 rfl) ?_
  refine lv_iconst (v := 0) hx hb dJ5_init_d00df_18 (by decide) ?_
  refine k_put hc (T := TJ4) in_J4 tyJ4 tyJ4_ok nmJ4 rfl 1 (by decide) qf_J5_22 rfl rfl dJ5_init_d00df_19 hM hS upM_at (by rfl) (by decide) (Nat.le_of_ble_eq_true rfl) (fun H locs hM hS => ?_)
  refine lv_goto (tgt := 38) hx hb dJ5_init_d00df_22 (by decide) ?_
  exact k_ovret hc hr dJ5_init_d00df_38 hM hS (Nat.le_of_ble_eq_true rfl) (Nat.le_of_ble_eq_true rfl) ⟨rfl, sb_new h0 hA hno⟩
set_option maxHeartbeats 4000000 in
set_option maxRecDepth 100000 in
theorem c_J4_init (l : Launch) (hlf : l.stackTraces = false) (g : GC) (M0 M : HM) (a : Nat) (h0 : ∀ q e, M0 q = some e → M q = some e ∧ q ≠ a) (hA : M a = some (.inr (8, [.null, .int 0, .int 0, .int 0]))) : KMo g l yJ4_init_da8c8 cJ4_init_da8c8 1 none 2 1 16 [.ref a] M (fun v M1 => v = none ∧ SbW g M0 a 0 M1) := by
  refine k_metho hlf (by decide) (Nat.le_of_ble_eq_true rfl) fun p e s m below meth c ls hc hr hin2 hnx hM hS hl => ?_
  have hc : Cx g p l s m [.ref a].toArray meth c cJ4_init_da8c8 1 RJ4 := hc
  have hx := hc.1
  have hb := hc.2.1
  have hl : lv_has ls 1 [(0, .ref a)] := hl
  refine lv_aload_n hx hb dJ4_init_da8c8_0 rfl (lv_at hl 0 rfl) ?_
  refine lv_bipush (v := 16) hx hb dJ4_init_da8c8_1 (by decide) ?_
  refine k_goIo hc [.int 16] cwb_ini5 dJ4_init_da8c8_3 (c_J5_init l hlf g M0 M a h0 hA) hM hS hl.1 rfl rfl ⟨Nat.le_of_ble_eq_true rfl, Nat.le_of_ble_eq_true rfl⟩ ⟨Nat.le_of_ble_eq_true rfl, Nat.le_of_ble_eq_true rfl⟩ (Nat.le_of_ble_eq_true rfl) (fun v M1 H locs hs hM hS => ?_)
  obtain ⟨hv, h1⟩ := hs
  subst hv
  exact k_ovret hc hr dJ4_init_da8c8_6 hM hS (Nat.le_of_ble_eq_true rfl) (Nat.le_of_ble_eq_true rfl) ⟨rfl, h1⟩
set_option maxHeartbeats 4000000 in
set_option maxRecDepth 100000 in
theorem c_J7_checkL (l : Launch) (hlf : l.stackTraces = false) (g : GC) (M : HM) (n : Nat) (hn : n < 16) : KMo g l yJ7_checkLength_df160 cJ7_checkLength_df160 2 none 1 0 0 [.int 0, .int (nI n)] M (fun v M1 => v = none ∧ M1 = M) := by
  refine k_metho hlf (by decide) (Nat.le_of_ble_eq_true rfl) fun p e s m below meth c ls hc hr hin2 hnx hM hS hl => ?_
  have hc : Cx g p l s m [.int 0, .int (nI n)].toArray meth c cJ7_checkLength_df160 2 RJ7 := hc
  have hx := hc.1
  have hb := hc.2.1
  have hl : lv_has ls 2 [(0, .int 0), (1, .int (nI n))] := hl
  refine lv_iload_n hx hb dJ7_checkLength_df160_0 rfl (lv_at hl 1 rfl) ?_
  refine lv_iload_n hx hb dJ7_checkLength_df160_1 rfl (lv_at hl 0 rfl) ?_
  refine lv_icmp_ge (tgt := 37) hx hb dJ7_checkLength_df160_2 (by decide) (fun _ => ?_) (fun h => absurd (Int32.not_lt.mp (nI_pos (by omega))) h)
  exact k_ovret hc hr dJ7_checkLength_df160_37 hM hS (Nat.le_of_ble_eq_true rfl) (Nat.le_of_ble_eq_true rfl) ⟨rfl, rfl⟩
theorem min_n : ∀ n : Nat, n < 16 → minI (nI 16 - 0) (nI n - 0) = nI n := by decide +kernel
theorem sub_n : ∀ n : Nat, n < 16 → nI n - 0 = nI n := by decide +kernel
theorem ne_n : ∀ n : Nat, n < 16 → ¬ nI n = nI 16 := by decide +kernel
set_option maxHeartbeats 4000000 in
set_option maxRecDepth 100000 in
theorem c_J7_rangeB (l : Launch) (hlf : l.stackTraces = false) (g : GC) (M : HM) (n d : Nat) (f : Nat → Int32) (hn : n < 16) (hD : M d = some (.inl (gD g, 16, .inl f))) (hf : BtOk 16 f) : KMo g l yJ7_copyOfRangeByte_39247 cJ7_copyOfRangeByte_39247 5 (some (.array .byte)) 2 1 16 [.ref d, .int 0, .int (nI n)] M (fun v M1 => ∃ (x : Nat) (f1 : Nat → Int32), v = some (.ref x) ∧ M x = none ∧ M1 = upM M x (.inl (gD g, n, .inl f1))) := by
  refine k_metho hlf (by decide) (Nat.le_of_ble_eq_true rfl) fun p e s m below meth c ls hc hr hin2 hnx hM hS hl => ?_
  have hc : Cx g p l s m [.ref d, .int 0, .int (nI n)].toArray meth c cJ7_copyOfRangeByte_39247 5 RJ7 := hc
  have hx := hc.1
  have hb := hc.2.1
  have hl : lv_has ls 5 [(0, .ref d), (1, .int 0), (2, .int (nI n))] := hl
  refine lv_iload_n hx hb dJ7_copyOfRangeByte_39247_0 rfl (lv_at hl 1 rfl) ?_
  refine lv_iload_n hx hb dJ7_copyOfRangeByte_39247_1 rfl (lv_at hl 2 rfl) ?_
  refine k_goSo hc [.int 0, .int (nI n)] cwb_checkL dJ7_copyOfRangeByte_39247_2 (c_J7_checkL l hlf g M n hn) hM hS hl.1 rfl rfl ⟨Nat.le_of_ble_eq_true rfl, Nat.le_of_ble_eq_true rfl⟩ ⟨Nat.le_of_ble_eq_true rfl, Nat.le_of_ble_eq_true rfl⟩ (Nat.le_of_ble_eq_true rfl) (fun v M1 H locs hs hM hS => ?_)
  obtain ⟨hv, h1⟩ := hs
  subst hv
  rw [h1] at hM
  refine lv_iload_n hx hb dJ7_copyOfRangeByte_39247_5 rfl (lv_at hl 2 rfl) ?_
  refine lv_iload_n hx hb dJ7_copyOfRangeByte_39247_6 rfl (lv_at hl 1 rfl) ?_
  refine lv_isub hx hb dJ7_copyOfRangeByte_39247_7 ?_
  refine lv_istore_n (lv' := [(3, .int (nI n - 0)), (0, .ref d), (1, .int 0), (2, .int (nI n))]) hx hb dJ7_copyOfRangeByte_39247_8 rfl hl (by decide) rfl (fun ls hl => ?_)
  refine lv_iload_n hx hb dJ7_copyOfRangeByte_39247_9 rfl (lv_at hl 0 rfl) ?_
  rw [sub_n n hn] at hl ⊢
  refine k_newB hc (N' := n) (nI_pos (by omega)) (nI_clamp (by omega)) (by omega) dJ7_copyOfRangeByte_39247_10 hM hS (Nat.le_of_ble_eq_true rfl) (by show 0 + 0 + n ≤ 16; omega) (fun q H hno hM hS => ?_)
  refine lv_astore (lv' := [(4, .ref q), (3, .int (nI n)), (0, .ref d), (1, .int 0), (2, .int (nI n))]) hx hb dJ7_copyOfRangeByte_39247_12 hl (by decide) rfl (fun ls hl => ?_)
  refine lv_aload_n hx hb dJ7_copyOfRangeByte_39247_14 rfl (lv_at hl 2 rfl) ?_
  refine lv_iload_n hx hb dJ7_copyOfRangeByte_39247_15 rfl (lv_at hl 3 rfl) ?_
  refine lv_aload hx hb dJ7_copyOfRangeByte_39247_16 (lv_at hl 0 rfl) ?_
  refine lv_iconst (v := 0) hx hb dJ7_copyOfRangeByte_39247_18 (by decide) ?_
  refine lv_aload_n hx hb dJ7_copyOfRangeByte_39247_19 rfl (lv_at hl 2 rfl) ?_
  have hdq : d ≠ q := fun h => by rw [← h, hD] at hno; cases hno
  have hdJ7_copyOfRangeByte_39247_2 : upM M q (.inl (gD g, n, .inl (fun _ => 0))) d = some (.inl (gD g, 16, .inl f)) := (upM_ne hdq).trans hD
  refine k_alenB hc hM hdJ7_copyOfRangeByte_39247_2 dJ7_copyOfRangeByte_39247_20 ?_
  refine lv_iload_n hx hb dJ7_copyOfRangeByte_39247_21 rfl (lv_at hl 3 rfl) ?_
  refine lv_isub hx hb dJ7_copyOfRangeByte_39247_22 ?_
  refine lv_iload_n hx hb dJ7_copyOfRangeByte_39247_23 rfl (lv_at hl 1 rfl) ?_
  refine k_min hc q_J7_304 dJ7_copyOfRangeByte_39247_24 hl.1 ⟨(Nat.le_of_ble_eq_true rfl), (Nat.le_of_ble_eq_true rfl), (Nat.le_of_ble_eq_true rfl), by show 0 + 0 + n ≤ 16; omega⟩ ?_
  rw [show minI (nI 16 - 0) (nI n) = nI n by have := min_n n hn; rw [sub_n n hn] at this; exact this]
  obtain ⟨hst9, kA, hkA, comp, hkind⟩ := (hc.2.2.2.2.2.1.1.2 2 _ rfl).1 16 (fun j => .int (f j))
  refine k_copyB hc q_J7_150 (c0 := vp_cell (gD g) (16, .inl f)) (n0 := 16) hkA hkind (fun h => by cases h) hst9 (by show 16 ≤ (arrV (gD g) 16 (fun j => .int (f j))).slots.size; rw [arrV_size]; exact Nat.le_refl _) (F := f) (fun j hj => arrV_read _ _ hj) hf (fun j _ => by show fits .byte (.int 0) = true; decide) (hM d _ hdJ7_copyOfRangeByte_39247_2).2 upM_at hM hS hl.1 (by decide) (by decide) (nI_pos (by omega)) (by rw [nI_clamp (by omega)]; show 0 + n ≤ 16; omega) (by rw [nI_clamp (by omega)]; show 0 + n ≤ n; omega) ⟨Nat.le_of_ble_eq_true rfl, Nat.le_of_ble_eq_true rfl⟩ dJ7_copyOfRangeByte_39247_27 (fun H locs f1 hf1 hM hS => ?_)
  rw [upM_upM] at hM
  refine lv_aload hx hb dJ7_copyOfRangeByte_39247_30 (lv_at hl 0 rfl) ?_
  exact k_oaret hc (Or.inr ⟨_, rfl⟩) hr dJ7_copyOfRangeByte_39247_32 hM hS (Nat.le_of_ble_eq_true rfl) (by show 0 + 0 + n ≤ 16; omega) ⟨q, f1, rfl, hno, rfl⟩
set_option maxHeartbeats 4000000 in
set_option maxRecDepth 100000 in
theorem c_J7_range (l : Launch) (hlf : l.stackTraces = false) (g : GC) (M : HM) (n d : Nat) (f : Nat → Int32) (hn : n < 16) (hD : M d = some (.inl (gD g, 16, .inl f))) (hf : BtOk 16 f) : KMo g l yJ7_copyOfRange_39247 cJ7_copyOfRange_39247 3 (some (.array .byte)) 3 1 16 [.ref d, .int 0, .int (nI n)] M (fun v M1 => ∃ (x : Nat) (f1 : Nat → Int32), v = some (.ref x) ∧ M x = none ∧ M1 = upM M x (.inl (gD g, n, .inl f1))) := by
  refine k_metho hlf (by decide) (Nat.le_of_ble_eq_true rfl) fun p e s m below meth c ls hc hr hin2 hnx hM hS hl => ?_
  have hc : Cx g p l s m [.ref d, .int 0, .int (nI n)].toArray meth c cJ7_copyOfRange_39247 3 RJ7 := hc
  have hx := hc.1
  have hb := hc.2.1
  have hl : lv_has ls 3 [(0, .ref d), (1, .int 0), (2, .int (nI n))] := hl
  refine lv_iload_n hx hb dJ7_copyOfRange_39247_0 rfl (lv_at hl 1 rfl) ?_
  refine lv_if_ne (tgt := 10) hx hb dJ7_copyOfRange_39247_1 (by decide) (fun h => absurd rfl h) (fun _ => ?_)
  refine lv_iload_n hx hb dJ7_copyOfRange_39247_4 rfl (lv_at hl 2 rfl) ?_
  refine lv_aload_n hx hb dJ7_copyOfRange_39247_5 rfl (lv_at hl 0 rfl) ?_
  refine k_alenB hc hM hD dJ7_copyOfRange_39247_6 ?_
  refine lv_icmp_eq (tgt := 17) hx hb dJ7_copyOfRange_39247_7 (by decide) (fun h => absurd h (ne_n n hn)) (fun _ => ?_)
  refine lv_aload_n hx hb dJ7_copyOfRange_39247_10 rfl (lv_at hl 0 rfl) ?_
  refine lv_iload_n hx hb dJ7_copyOfRange_39247_11 rfl (lv_at hl 1 rfl) ?_
  refine lv_iload_n hx hb dJ7_copyOfRange_39247_12 rfl (lv_at hl 2 rfl) ?_
  refine k_goSo hc [.ref d, .int 0, .int (nI n)] cwb_rangeB dJ7_copyOfRange_39247_13 (c_J7_rangeB l hlf g M n d f hn hD hf) hM hS hl.1 rfl rfl ⟨Nat.le_of_ble_eq_true rfl, Nat.le_of_ble_eq_true rfl⟩ ⟨Nat.le_of_ble_eq_true rfl, Nat.le_of_ble_eq_true rfl⟩ (Nat.le_of_ble_eq_true rfl) (fun v M1 H locs hs hM hS => ?_)
  obtain ⟨x, f1, hv, hno, h1⟩ := hs
  subst hv
  exact k_oaret hc (Or.inr ⟨_, rfl⟩) hr dJ7_copyOfRange_39247_16 hM hS (Nat.le_of_ble_eq_true rfl) (Nat.le_of_ble_eq_true rfl) ⟨x, f1, rfl, hno, h1⟩
theorem st_new {g : GC} {M0 M : HM} {b x n : Nat} {A : va_E} {h1 h2 : Value} {f1 : Nat → Int32} (h0 : ∀ q e, M0 q = some e → M q = some e) (hb0 : M0 b = none) (hno : upM M b A x = none) (hxb : b ≠ x) : StW g M0 b n (upM (upM (upM M b A) x (.inl (gD g, n, .inl f1))) b (.inr (0, [.ref x, .int 0, h1, h2]))) := by
  refine ⟨x, h1, h2, f1, fun q e hq => ?_, ⟨hb0, ?_⟩, upM_at, (upM_ne hxb.symm).trans upM_at⟩
  rotate_left
  · cases h : M0 x with
    | none => rfl
    | some e9 =>
      rw [upM_ne hxb.symm, h0 x e9 h] at hno
      cases hno
  have hqb : q ≠ b := fun h => by rw [h, hb0] at hq; cases hq
  have hqx : q ≠ x := fun h => by
    rw [← h, upM_ne hqb, h0 q e hq] at hno
    cases hno
  rw [upM_ne hqb, upM_ne hqx, upM_ne hqb]
  exact h0 q e hq
set_option maxHeartbeats 4000000 in
set_option maxRecDepth 100000 in
theorem c_J0_init0 (l : Launch) (hlf : l.stackTraces = false) (g : GC) (M0 M : HM) (a n b : Nat) (hB : SbW g M0 a n M) (hn : n < 16) (hb9 : M b = some (.inr (0, [.null, .int 0, .int 0, .int 0]))) (hb0 : M0 b = none) : KMo g l yJ0_init_db425 cJ0_init_db425 5 none 4 1 16 [.ref b, .ref a, .null] M (fun v M1 => v = none ∧ StW g M0 b n M1) := by
  refine k_metho hlf (by decide) (Nat.le_of_ble_eq_true rfl) fun p e s m below meth c ls hc hr hin2 hnx hM hS hl => ?_
  have hc : Cx g p l s m [.ref b, .ref a, .null].toArray meth c cJ0_init_db425 5 RJ0 := hc
  have hx := hc.1
  have hb := hc.2.1
  have hl : lv_has ls 5 [(0, .ref b), (1, .ref a), (2, .null)] := hl
  have hB9 := hB
  obtain ⟨d, z, f, h0, hA, hD, hf⟩ := hB
  refine lv_aload_n hx hb dJ0_init_db425_0 rfl (lv_at hl 0 rfl) ?_
  refine k_super hc q_J0_1 dJ0_init_db425_1 hl.1 ⟨Nat.le_of_ble_eq_true rfl, Nat.le_of_ble_eq_true rfl⟩ ?_
  refine lv_aload_n hx hb dJ0_init_db425_4 rfl (lv_at hl 1 rfl) ?_
  refine k_goZ hc (C := RJ4) (ci := 8) (n := 0) [] rfl q_J0_552 ⟨by decide, by decide⟩ qc_J5_getValue_6d5f1 qn_AbstractStringBuilder (sel_inh hc qi_J5_getValue_6d5f1 qc_J5_getValue_6d5f1 qi_J5_getValue_6d5f1 qy_getValue qz_getValue ⟨by decide, by decide⟩ (by decide +kernel)) dJ0_init_db425_5 (c_J5_getValue l hlf g M0 M a n d z hA) hA hM hS hl.1 rfl rfl ⟨Nat.le_of_ble_eq_true rfl, Nat.le_of_ble_eq_true rfl⟩ ⟨Nat.le_of_ble_eq_true rfl, Nat.le_of_ble_eq_true rfl⟩ (Nat.le_of_ble_eq_true rfl) (fun v M1 H locs hs hM hS => ?_)
  obtain ⟨hv, h1⟩ := hs
  subst hv
  rw [h1] at hM
  refine lv_astore_n (lv' := [(3, .ref d), (0, .ref b), (1, .ref a), (2, .null)]) hx hb dJ0_init_db425_8 rfl hl (by decide) rfl (fun ls hl => ?_)
  refine lv_aload_n hx hb dJ0_init_db425_9 rfl (lv_at hl 2 rfl) ?_
  refine k_goZ hc (C := RJ4) (ci := 8) (n := 0) [] rfl q_J0_549 ⟨by decide, by decide⟩ qc_J4_length_8abf5 qn_StringBuilder (sel_inh hc qi_J5_length_8abf5 qc_J5_length_8abf5 qi_J4_length_8abf5 qy_length qz_length ⟨by decide, by decide⟩ (by decide +kernel)) dJ0_init_db425_10 (c_J4_length l hlf g M0 M a n hB9) hA hM hS hl.1 rfl rfl ⟨Nat.le_of_ble_eq_true rfl, Nat.le_of_ble_eq_true rfl⟩ ⟨Nat.le_of_ble_eq_true rfl, Nat.le_of_ble_eq_true rfl⟩ (Nat.le_of_ble_eq_true rfl) (fun v M1 H locs hs hM hS => ?_)
  obtain ⟨hv, h1⟩ := hs
  subst hv
  rw [h1] at hM
  refine lv_istore (lv' := [(4, .int (nI n)), (3, .ref d), (0, .ref b), (1, .ref a), (2, .null)]) hx hb dJ0_init_db425_13 hl (by decide) rfl (fun ls hl => ?_)
  refine lv_aload_n hx hb dJ0_init_db425_15 rfl (lv_at hl 3 rfl) ?_
  refine k_goZ hc (C := RJ4) (ci := 8) (n := 0) [] rfl q_J0_1047 ⟨by decide, by decide⟩ qc_J5_isLatin1_aae02 qn_AbstractStringBuilder (sel_inh hc qi_J5_isLatin1_aae02 qc_J5_isLatin1_aae02 qi_J5_isLatin1_aae02 qy_isLatin1 qz_isLatin1 ⟨by decide, by decide⟩ (by decide +kernel)) dJ0_init_db425_16 (c_J5_isLatin1 l hlf g M0 M a n hB9) hA hM hS hl.1 rfl rfl ⟨Nat.le_of_ble_eq_true rfl, Nat.le_of_ble_eq_true rfl⟩ ⟨Nat.le_of_ble_eq_true rfl, Nat.le_of_ble_eq_true rfl⟩ (Nat.le_of_ble_eq_true rfl) (fun v M1 H locs hs hM hS => ?_)
  obtain ⟨hv, h1⟩ := hs
  subst hv
  rw [h1] at hM
  refine lv_if_eq (tgt := 41) hx hb dJ0_init_db425_19 (by decide) (fun h => absurd h (by decide)) (fun _ => ?_)
  refine lv_aload_n hx hb dJ0_init_db425_22 rfl (lv_at hl 2 rfl) ?_
  refine lv_iconst (v := 0) hx hb dJ0_init_db425_23 (by decide) ?_
  refine k_putF hc hin2 (T := TJ0) in_J0 tyJ0 tyJ0_ok nmJ0 rfl 1 (by decide) qf_J0_15 rfl rfl rfl dJ0_init_db425_24 hM hS hb9 (by rfl) (by decide) (Nat.le_of_ble_eq_true rfl) (fun H locs hM hS => ?_)
  refine lv_aload_n hx hb dJ0_init_db425_27 rfl (lv_at hl 2 rfl) ?_
  refine lv_aload_n hx hb dJ0_init_db425_28 rfl (lv_at hl 1 rfl) ?_
  refine lv_iconst (v := 0) hx hb dJ0_init_db425_29 (by decide) ?_
  refine lv_iload hx hb dJ0_init_db425_30 (lv_at hl 0 rfl) ?_
  have hbd : d ≠ b := (sb_ne hb9 hD).symm
  have hdJ0_init_db425_2 : upM M b (.inr (0, [.null, .int 0, .int 0, .int 0].set 1 (.int 0))) d = some (.inl (gD g, 16, .inl f)) := (upM_ne hbd).trans hD
  refine k_goSo hc [.ref d, .int 0, .int (nI n)] cwb_range dJ0_init_db425_32 (c_J7_range l hlf g _ n d f hn hdJ0_init_db425_2 hf) hM hS hl.1 rfl rfl ⟨Nat.le_of_ble_eq_true rfl, Nat.le_of_ble_eq_true rfl⟩ ⟨Nat.le_of_ble_eq_true rfl, Nat.le_of_ble_eq_true rfl⟩ (Nat.le_of_ble_eq_true rfl) (fun v M1 H locs hs hM hS => ?_)
  obtain ⟨x, f1, hv, hno, h1⟩ := hs
  subst hv
  subst h1
  have hxb : b ≠ x := fun h => by rw [← h, upM_at] at hno; cases hno
  refine k_putF hc hin2 (T := TJ0) in_J0 tyJ0 tyJ0_ok nmJ0 rfl 0 (by decide) qf_J0_9 rfl rfl rfl dJ0_init_db425_35 hM hS (show upM (upM M b _) x _ b = _ from (upM_ne hxb).trans upM_at) rfl rfl (Nat.le_of_ble_eq_true rfl) (fun H locs hM hS => ?_)
  refine lv_goto (tgt := 97) hx hb dJ0_init_db425_38 (by decide) ?_
  exact k_ovret hc hr dJ0_init_db425_97 hM hS (Nat.le_of_ble_eq_true rfl) (Nat.le_of_ble_eq_true rfl) ⟨rfl, st_new (fun q e hq => (h0 q e hq).1) hb0 hno hxb⟩
set_option maxHeartbeats 4000000 in
set_option maxRecDepth 100000 in
theorem c_J0_init4 (l : Launch) (hlf : l.stackTraces = false) (g : GC) (M0 M : HM) (a n b : Nat) (hB : SbW g M0 a n M) (hn : n < 16) (hb9 : M b = some (.inr (0, [.null, .int 0, .int 0, .int 0]))) (hb0 : M0 b = none) : KMo g l yJ0_init_81219 cJ0_init_81219 2 none 5 1 16 [.ref b, .ref a] M (fun v M1 => v = none ∧ StW g M0 b n M1) := by
  refine k_metho hlf (by decide) (Nat.le_of_ble_eq_true rfl) fun p e s m below meth c ls hc hr hin2 hnx hM hS hl => ?_
  have hc : Cx g p l s m [.ref b, .ref a].toArray meth c cJ0_init_81219 2 RJ0 := hc
  have hx := hc.1
  have hb := hc.2.1
  have hl : lv_has ls 2 [(0, .ref b), (1, .ref a)] := hl
  refine lv_aload_n hx hb dJ0_init_81219_0 rfl (lv_at hl 0 rfl) ?_
  refine lv_aload_n hx hb dJ0_init_81219_1 rfl (lv_at hl 1 rfl) ?_
  refine lv_null hx hb dJ0_init_81219_2 ?_
  refine k_goIo hc [.ref a, .null] cwb_ini0 dJ0_init_81219_3 (c_J0_init0 l hlf g M0 M a n b hB hn hb9 hb0) hM hS hl.1 rfl rfl ⟨Nat.le_of_ble_eq_true rfl, Nat.le_of_ble_eq_true rfl⟩ ⟨Nat.le_of_ble_eq_true rfl, Nat.le_of_ble_eq_true rfl⟩ (Nat.le_of_ble_eq_true rfl) (fun v M1 H locs hs hM hS => ?_)
  obtain ⟨hv, h1⟩ := hs
  subst hv
  exact k_ovret hc hr dJ0_init_81219_6 hM hS (Nat.le_of_ble_eq_true rfl) (Nat.le_of_ble_eq_true rfl) ⟨rfl, h1⟩
set_option maxHeartbeats 4000000 in
set_option maxRecDepth 100000 in
theorem c_J4_toString (l : Launch) (hlf : l.stackTraces = false) (g : GC) (M0 M : HM) (a n : Nat) (hB : SbW g M0 a n M) (hn : n < 16) : KMo g l yJ4_toString_0e30d cJ4_toString_0e30d 1 (some (.object "java/lang/String")) 6 2 20 [.ref a] M (fun v M1 => ∃ b, v = some (.ref b) ∧ StW g M0 b n M1) := by
  refine k_metho hlf (by decide) (Nat.le_of_ble_eq_true rfl) fun p e s m below meth c ls hc hr hin2 hnx hM hS hl => ?_
  have hc : Cx g p l s m [.ref a].toArray meth c cJ4_toString_0e30d 1 RJ4 := hc
  have hx := hc.1
  have hb := hc.2.1
  have hl : lv_has ls 1 [(0, .ref a)] := hl
  have hB9 := hB
  obtain ⟨d, z, f, h0, hA, hD, hf⟩ := hB
  refine k_newX hc (T := TJ0) (ci := 0) in_J0 tyJ0 tyJ0_ok rfl ql_J4_18 qm_String qn_String (fs := [.null, .int 0, .int 0, .int 0]) (fun j hj => ?_) dJ4_toString_0e30d_0 hM hS (Nat.le_of_ble_eq_true rfl) (Nat.le_of_ble_eq_true rfl) (fun b H hno hM hS => ?_)
  · match j, hj with
    | 0, _ => rfl
    | 1, _ => rfl
    | 2, _ => rfl
    | 3, _ => rfl
  refine lv_dup hx hb dJ4_toString_0e30d_3 rfl ?_
  refine lv_aload_n hx hb dJ4_toString_0e30d_4 rfl (lv_at hl 0 rfl) ?_
  have hb0 : M0 b = none := by
    cases h : M0 b with
    | none => rfl
    | some e9 =>
      have := (h0 b e9 h).1
      rw [hno] at this
      cases this
  have hne : ∀ q e9, M q = some e9 → q ≠ b := fun q e9 h hq => by rw [hq, hno] at h; cases h
  have hB2 : SbW g M0 a n (upM M b (.inr (0, [.null, .int 0, .int 0, .int 0]))) := ⟨d, z, f, fun q e9 hq => ⟨(upM_ne (hne q e9 (h0 q e9 hq).1)).trans (h0 q e9 hq).1, (h0 q e9 hq).2⟩, (upM_ne (hne a _ hA)).trans hA, (upM_ne (hne d _ hD)).trans hD, hf⟩
  refine k_goIo hc [.ref a] cwb_ini4 dJ4_toString_0e30d_5 (c_J0_init4 l hlf g M0 _ a n b hB2 hn upM_at hb0) hM hS hl.1 rfl rfl ⟨Nat.le_of_ble_eq_true rfl, Nat.le_of_ble_eq_true rfl⟩ ⟨Nat.le_of_ble_eq_true rfl, Nat.le_of_ble_eq_true rfl⟩ (Nat.le_of_ble_eq_true rfl) (fun v M1 H locs hs hM hS => ?_)
  obtain ⟨hv, h1⟩ := hs
  subst hv
  exact k_oaret hc (Or.inl ⟨_, rfl⟩) hr dJ4_toString_0e30d_8 hM hS (Nat.le_of_ble_eq_true rfl) (Nat.le_of_ble_eq_true rfl) ⟨b, rfl, h1⟩
set_option maxHeartbeats 4000000 in
set_option maxRecDepth 100000 in
theorem c_S0_coder (l : Launch) (hlf : l.stackTraces = false) (g : GC) (M : HM) (b n x : Nat) (h1 h2 : Value) (f : Nat → Int32) (hb : M b = some (.inr (0, [.ref x, .int 0, h1, h2]))) (hx9 : M x = some (.inl (gD g, n, .inl f))) : KM g l yJ0_coder_7d493 cJ0_coder_7d493 1 (some .byte) 1 0 0 [.ref b] M (.inl (some (.int 0), M)) := by
  have hb9 := hb
  refine k_meth hlf (by decide) (Nat.le_of_ble_eq_true rfl) fun p e s m below meth c ls hc hr hnx hM hS hl => ?_
  have hc : Cx g p l s m [.ref b].toArray meth c cJ0_coder_7d493 1 RJ0 := hc
  have hx := hc.1
  have hb := hc.2.1
  have hl : lv_has ls 1 [(0, .ref b)] := hl
  refine va_gets hx hb hc.2.2.2.2.2.1.2.2.2.2.2.2.2.2.1 hS hc.2.2.2.1 (hc.2.2.2.2.1 _ qf_J0_38) (fun _ h => h) dJ0_coder_7d493_0 ?_
  refine lv_if_eq (tgt := 13) hx hb dJ0_coder_7d493_3 (by decide) (fun h => absurd h (by decide)) (fun _ => ?_)
  refine lv_aload_n hx hb dJ0_coder_7d493_6 rfl (lv_at hl 0 rfl) ?_
  refine k_get hc (T := TJ0) in_J0 rfl 1 (by decide) qf_J0_15 rfl dJ0_coder_7d493_7 hM hb9 rfl ?_
  refine lv_goto (tgt := 14) hx hb dJ0_coder_7d493_10 (by decide) ?_
  exact k_zret hc hr dJ0_coder_7d493_14 hM hS rfl (Nat.le_of_ble_eq_true rfl) (Nat.le_of_ble_eq_true rfl) rfl
set_option maxHeartbeats 4000000 in
set_option maxRecDepth 100000 in
theorem c_S0_isLatin1 (l : Launch) (hlf : l.stackTraces = false) (g : GC) (M : HM) (b n x : Nat) (h1 h2 : Value) (f : Nat → Int32) (hb : M b = some (.inr (0, [.ref x, .int 0, h1, h2]))) (hx9 : M x = some (.inl (gD g, n, .inl f))) : KM g l yJ0_isLatin1_aae02 cJ0_isLatin1_aae02 1 (some .boolean) 1 0 0 [.ref b] M (.inl (some (.int 1), M)) := by
  have hb9 := hb
  refine k_meth hlf (by decide) (Nat.le_of_ble_eq_true rfl) fun p e s m below meth c ls hc hr hnx hM hS hl => ?_
  have hc : Cx g p l s m [.ref b].toArray meth c cJ0_isLatin1_aae02 1 RJ0 := hc
  have hx := hc.1
  have hb := hc.2.1
  have hl : lv_has ls 1 [(0, .ref b)] := hl
  refine va_gets hx hb hc.2.2.2.2.2.1.2.2.2.2.2.2.2.2.1 hS hc.2.2.2.1 (hc.2.2.2.2.1 _ qf_J0_38) (fun _ h => h) dJ0_isLatin1_aae02_0 ?_
  refine lv_if_eq (tgt := 17) hx hb dJ0_isLatin1_aae02_3 (by decide) (fun h => absurd h (by decide)) (fun _ => ?_)
  refine lv_aload_n hx hb dJ0_isLatin1_aae02_6 rfl (lv_at hl 0 rfl) ?_
  refine k_get hc (T := TJ0) in_J0 rfl 1 (by decide) qf_J0_15 rfl dJ0_isLatin1_aae02_7 hM hb9 rfl ?_
  refine lv_if_ne (tgt := 17) hx hb dJ0_isLatin1_aae02_10 (by decide) (fun h => absurd rfl h) (fun _ => ?_)
  refine lv_iconst (v := 1) hx hb dJ0_isLatin1_aae02_13 (by decide) ?_
  refine lv_goto (tgt := 18) hx hb dJ0_isLatin1_aae02_14 (by decide) ?_
  exact k_zret hc hr dJ0_isLatin1_aae02_18 hM hS rfl (Nat.le_of_ble_eq_true rfl) (Nat.le_of_ble_eq_true rfl) rfl
set_option maxHeartbeats 4000000 in
set_option maxRecDepth 100000 in
theorem c_S0_length (l : Launch) (hlf : l.stackTraces = false) (g : GC) (M : HM) (b n x : Nat) (h1 h2 : Value) (f : Nat → Int32) (hb : M b = some (.inr (0, [.ref x, .int 0, h1, h2]))) (hx9 : M x = some (.inl (gD g, n, .inl f))) (hn : n < 2 ^ 31) : KM g l yJ0_length_8abf5 cJ0_length_8abf5 1 (some .int) 2 0 0 [.ref b] M (.inl (some (.int (nI n)), M)) := by
  have hb9 := hb
  refine k_meth hlf (by decide) (Nat.le_of_ble_eq_true rfl) fun p e s m below meth c ls hc hr hnx hM hS hl => ?_
  have hc : Cx g p l s m [.ref b].toArray meth c cJ0_length_8abf5 1 RJ0 := hc
  have hx := hc.1
  have hb := hc.2.1
  have hl : lv_has ls 1 [(0, .ref b)] := hl
  refine lv_aload_n hx hb dJ0_length_8abf5_0 rfl (lv_at hl 0 rfl) ?_
  refine k_get hc (T := TJ0) in_J0 rfl 0 (by decide) qf_J0_9 rfl dJ0_length_8abf5_1 hM hb9 rfl ?_
  refine k_alenB hc hM hx9 dJ0_length_8abf5_4 ?_
  refine lv_aload_n hx hb dJ0_length_8abf5_5 rfl (lv_at hl 0 rfl) ?_
  refine k_V1 hc [] cw_J0_335 (ci := 0) rfl dJ0_length_8abf5_6 (c_S0_coder l hlf g M b n x h1 h2 f hb9 hx9) hb9 hM hS hl.1 rfl rfl ⟨Nat.le_of_ble_eq_true rfl, Nat.le_of_ble_eq_true rfl⟩ ⟨Nat.le_of_ble_eq_true rfl, Nat.le_of_ble_eq_true rfl⟩ (Nat.le_of_ble_eq_true rfl) (fun H locs hM hS => ?_)
  refine lv_ishr hx hb dJ0_length_8abf5_9 ?_
  exact k_iret hc hr dJ0_length_8abf5_10 hM hS (Nat.le_of_ble_eq_true rfl) (Nat.le_of_ble_eq_true rfl) (by rw [show nI n >>> ((0 : Int32) &&& 31) = nI n from sc_shr0 hn])
set_option maxHeartbeats 4000000 in
set_option maxRecDepth 100000 in
theorem c_S1_charAt (l : Launch) (hlf : l.stackTraces = false) (g : GC) (M : HM) (n x k : Nat) (f : Nat → Int32) (hb : M x = some (.inl (gD g, n, .inl f))) (hk : k < n) (hn : n < 2 ^ 31) : KM g l yJ1_charAt_3b067 cJ1_charAt_3b067 2 (some .char) 3 0 0 [.ref x, .int (nI k)] M (.inl (some (.int (f k &&& 255)), M)) := by
  have hb9 := hb
  refine k_meth hlf (by decide) (Nat.le_of_ble_eq_true rfl) fun p e s m below meth c ls hc hr hnx hM hS hl => ?_
  have hc : Cx g p l s m [.ref x, .int (nI k)].toArray meth c cJ1_charAt_3b067 2 RJ1 := hc
  have hx := hc.1
  have hb := hc.2.1
  have hl : lv_has ls 2 [(0, .ref x), (1, .int (nI k))] := hl
  refine lv_iload_n hx hb dJ1_charAt_3b067_0 rfl (lv_at hl 1 rfl) ?_
  refine lv_aload_n hx hb dJ1_charAt_3b067_1 rfl (lv_at hl 0 rfl) ?_
  refine k_alenB hc hM hb9 dJ1_charAt_3b067_2 ?_
  refine k_S0 hc [.int (nI k), .int (nI n)] cw_J1_9 dJ1_charAt_3b067_3 (c_J0_checkIndex l hlf g _ (nI k) (nI n) (nI_pos (by omega)) (nI_lt hk hn)) hM hS hl.1 rfl rfl ⟨Nat.le_of_ble_eq_true rfl, Nat.le_of_ble_eq_true rfl⟩ ⟨Nat.le_of_ble_eq_true rfl, Nat.le_of_ble_eq_true rfl⟩ (Nat.le_of_ble_eq_true rfl) (fun H locs hM hS => ?_)
  refine lv_aload_n hx hb dJ1_charAt_3b067_6 rfl (lv_at hl 0 rfl) ?_
  refine lv_iload_n hx hb dJ1_charAt_3b067_7 rfl (lv_at hl 1 rfl) ?_
  refine k_bald hc hM hb9 (vp_in_nI hk (by omega)) dJ1_charAt_3b067_8 ?_
  rw [nI_clamp (by omega)]
  refine lv_sipush (v := 255) hx hb dJ1_charAt_3b067_9 (by decide) ?_
  refine lv_iand hx hb dJ1_charAt_3b067_12 ?_
  refine lv_i2c (v := f k &&& 255) hx hb dJ1_charAt_3b067_13 (sc_c2 _) ?_
  exact k_zret hc hr dJ1_charAt_3b067_14 hM hS (sc_nar _) (Nat.le_of_ble_eq_true rfl) (Nat.le_of_ble_eq_true rfl) rfl
set_option maxHeartbeats 4000000 in
set_option maxRecDepth 100000 in
theorem c_S0_charAt (l : Launch) (hlf : l.stackTraces = false) (g : GC) (M : HM) (b n x : Nat) (h1 h2 : Value) (f : Nat → Int32) (hb : M b = some (.inr (0, [.ref x, .int 0, h1, h2]))) (hx9 : M x = some (.inl (gD g, n, .inl f))) (k : Nat) (hk : k < n) (hn : n < 2 ^ 31) : KM g l yJ0_charAt_5068e cJ0_charAt_5068e 2 (some .char) 4 0 0 [.ref b, .int (nI k)] M (.inl (some (.int (f k &&& 255)), M)) := by
  have hb9 := hb
  refine k_meth hlf (by decide) (Nat.le_of_ble_eq_true rfl) fun p e s m below meth c ls hc hr hnx hM hS hl => ?_
  have hc : Cx g p l s m [.ref b, .int (nI k)].toArray meth c cJ0_charAt_5068e 2 RJ0 := hc
  have hx := hc.1
  have hb := hc.2.1
  have hl : lv_has ls 2 [(0, .ref b), (1, .int (nI k))] := hl
  refine lv_aload_n hx hb dJ0_charAt_5068e_0 rfl (lv_at hl 0 rfl) ?_
  refine k_V1 hc [] cw_J0_492 (ci := 0) rfl dJ0_charAt_5068e_1 (c_S0_isLatin1 l hlf g M b n x h1 h2 f hb9 hx9) hb9 hM hS hl.1 rfl rfl ⟨Nat.le_of_ble_eq_true rfl, Nat.le_of_ble_eq_true rfl⟩ ⟨Nat.le_of_ble_eq_true rfl, Nat.le_of_ble_eq_true rfl⟩ (Nat.le_of_ble_eq_true rfl) (fun H locs hM hS => ?_)
  refine lv_if_eq (tgt := 16) hx hb dJ0_charAt_5068e_4 (by decide) (fun h => absurd h (by decide)) (fun _ => ?_)
  refine lv_aload_n hx hb dJ0_charAt_5068e_7 rfl (lv_at hl 0 rfl) ?_
  refine k_get hc (T := TJ0) in_J0 rfl 0 (by decide) qf_J0_9 rfl dJ0_charAt_5068e_8 hM hb9 rfl ?_
  refine lv_iload_n hx hb dJ0_charAt_5068e_11 rfl (lv_at hl 1 rfl) ?_
  refine k_S1 hc [.ref x, .int (nI k)] cw_J0_495 dJ0_charAt_5068e_12 (c_S1_charAt l hlf g M n x k f hx9 hk hn) hM hS hl.1 rfl rfl ⟨Nat.le_of_ble_eq_true rfl, Nat.le_of_ble_eq_true rfl⟩ ⟨Nat.le_of_ble_eq_true rfl, Nat.le_of_ble_eq_true rfl⟩ (Nat.le_of_ble_eq_true rfl) (fun H locs hM hS => ?_)
  exact k_zret hc hr dJ0_charAt_5068e_15 hM hS (sc_nar _) (Nat.le_of_ble_eq_true rfl) (Nat.le_of_ble_eq_true rfl) rfl
