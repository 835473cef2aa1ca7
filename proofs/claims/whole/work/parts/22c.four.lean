/-! THE CASES of the law: faultPosition, save, and the two that are no ints -/
section LW
variable {p : Program} {l : Launch} {e : Env} {R : Room} {s : State} {m : MethodId} {args : Array Value} {below : List Frame} {meth : Method} {c : Code} {H : Heap} {locs : List Loc} {cells slots : Nat} {Q : State → Prop}
variable {ls : Array Slot} {g : GC} {M : HM} {b x i L n : Nat} {xs : Nat → Int32} {cs : CS} {md : FL}
set_option maxHeartbeats 4000000 in
set_option maxRecDepth 100000 in
theorem sg_faultPosition (hc : Cx g p l s m args meth c cL_law 9 RL) (hlf : l.stackTraces = false) (hW : WD g x M cs md) (hR9 : Rel n cs md) (hM : hR g M H) (hS : va_S (gA g) s.heap H locs) (hl : lv_has ls 9 (lw0 b x i)) (hroom : 20 ≤ R.frames ∧ 2000 ≤ R.locals) (hcell : cells + 3 ≤ R.cells) (hslot : slots + 18 ≤ R.slots) (hK : LwK p l e R s m args below meth c (cells + 3) (slots + 18) Q g b x i n) : W p l e R s m args below meth c H locs cells slots Q (F0 m 1913 ls []) := by
  have hx := hc.1
  have hb := hc.2.1
  refine lv_aload_n hx hb dL_law_1913 rfl (lv_at hl 4 rfl) ?_
  refine k_V1 hc [] cw_L_238 rfl dL_law_1914 (c_X5_faultPosition l hlf g M x cs hW.1) hW.1.o hM hS hl.1 rfl rfl ⟨by omega, by omega⟩ ⟨by omega, by omega⟩ (Nat.le_of_ble_eq_true rfl) (fun H locs hM hS => ?_)
  refine lv_aload_n hx hb dL_law_1917 rfl (lv_at hl 3 rfl) ?_
  refine k_V1 hc [] cw_L_241 rfl dL_law_1918 (c_X6_faultPosition l hlf g M (x + 196) md hW.2.1) hW.2.1.o hM hS hl.1 rfl rfl ⟨by omega, by omega⟩ ⟨by omega, by omega⟩ (Nat.le_of_ble_eq_true rfl) (fun H locs hM hS => ?_)
  refine lv_icmp_eq (tgt := 2382) hx hb dL_law_1921 (by decide) (fun _ => ?_) (fun c_1 => absurd hR9.2.2.2.2.2.1 c_1)
  refine W.widen (k := cells + 3) (n := slots + 18) (by omega) (by omega) ?_
  exact hK _ cs _ H locs ls hW.mod (hR9.thr.mono (Nat.le_add_right n 1500)) hM hS hl
set_option maxHeartbeats 4000000 in
set_option maxRecDepth 100000 in
theorem sg_save (hc : Cx g p l s m args meth c cL_law 9 RL) (hlf : l.stackTraces = false) (hW : WD g x M cs md) (hR9 : Rel n cs md) (hM : hR g M H) (hS : va_S (gA g) s.heap H locs) (hl : lv_has ls 9 (lw0 b x i)) (hroom : 20 ≤ R.frames ∧ 2000 ≤ R.locals) (hcell : cells + 3 ≤ R.cells) (hslot : slots + 18 ≤ R.slots) (hK : LwK p l e R s m args below meth c (cells + 3) (slots + 18) Q g b x i n) : W p l e R s m args below meth c H locs cells slots Q (F0 m 2325 ls []) := by
  have hx := hc.1
  have hb := hc.2.1
  obtain ⟨q1, q2⟩ := sim_save hR9
  have hW2 := hW.cls (cs' := upS (upC cs 2 (cs 0)) 7 1)
  refine lv_aload_n hx hb dL_law_2325 rfl (lv_at hl 4 rfl) ?_
  refine k_V1 hc [] cw_L_264 rfl dL_law_2326 (c_X5_save l hlf g M x cs hW.1) hW.1.o hM hS hl.1 rfl rfl ⟨by omega, by omega⟩ ⟨by omega, by omega⟩ (Nat.le_of_ble_eq_true rfl) (fun H locs hM hS => ?_)
  refine lv_aload_n hx hb dL_law_2329 rfl (lv_at hl 3 rfl) ?_
  refine k_V1 hc [] cw_L_267 rfl dL_law_2330 (c_X6_save l hlf g _ (x + 196) md hW2.2.1) hW2.2.1.o hM hS hl.1 rfl rfl ⟨by omega, by omega⟩ ⟨by omega, by omega⟩ (Nat.le_of_ble_eq_true rfl) (fun H locs hM hS => ?_)
  refine lv_icmp_eq (tgt := 2382) hx hb dL_law_2333 (by decide) (fun _ => ?_) (fun c_1 => absurd q1 c_1)
  refine W.widen (k := cells + 3) (n := slots + 18) (by omega) (by omega) ?_
  exact hK _ _ _ H locs ls hW2.mod (q2.mono (Nat.le_add_right n 1500)) hM hS hl
theorem cmpv_eq {r : Option Ordering} {op : CmpOp} (h : r = some .eq) : Op.cmpValue r op = 0 := by
  subst h
  rfl
set_option maxHeartbeats 4000000 in
set_option maxRecDepth 100000 in
theorem sg_meanThirst (hc : Cx g p l s m args meth c cL_law 9 RL) (hlf : l.stackTraces = false) (hW : WD g x M cs md) (hR9 : Rel n cs md) (hM : hR g M H) (hS : va_S (gA g) s.heap H locs) (hl : lv_has ls 9 (lw0 b x i)) (hroom : 20 ≤ R.frames ∧ 2000 ≤ R.locals) (hcell : cells + 3 ≤ R.cells) (hslot : slots + 18 ≤ R.slots) (hK : LwK p l e R s m args below meth c (cells + 3) (slots + 18) Q g b x i n) : W p l e R s m args below meth c H locs cells slots Q (F0 m 2094 ls []) := by
  have hx := hc.1
  have hb := hc.2.1
  have hmf := mean_f hR9
  have hf1 : 0 < cs 0 8 4 → vf_n32 (FP.fdiv (FP.i2f (rsum 6 (cs 0 8 5) (cs 0 5))) (FP.i2f (cs 0 8 4))) := fun h9 => by
    rcases hmf with ⟨-, q⟩ | ⟨-, -, q1, q2⟩
    · exact absurd h9 q
    · rw [q1]; exact (nanP_s q2).1
  have hf2 : ¬ md 0 5 = 0 → vf_n32 (FP.fdiv (FP.i2f (itr (thS (md 0)) 0 (md 0 5).toNatClampNeg)) (FP.i2f (md 0 5))) := fun h9 => by
    rcases hmf with ⟨q, -⟩ | ⟨-, -, q1, q2⟩
    · exact absurd q h9
    · exact (nanP_s q2).1
  have hcl := c_X5_meanThirst l hlf g M x cs hW.1 hf1
  obtain ⟨-, -, -, f0, hf0⟩ := id hW
  obtain ⟨M2, kk, hO, hW2, hkk, hfd⟩ : ∃ (M2 : HM) (kk : Int32), hOutF g (x + 205) ["java/lang/ArithmeticException"] (if 0 < cs 0 8 4 then .inl (some (.float (FP.fdiv (FP.i2f (rsum 6 (cs 0 8 5) (cs 0 5))) (FP.i2f (cs 0 8 4)))), M) else .inr ("java/lang/ArithmeticException", M)) (.inl (some (.int kk), M2)) ∧ WD g x M2 cs md ∧ kk = (if md 0 5 = 0 then 1 else 0) ∧ (kk = 0 → ∃ f, M2 (x + 205) = some (.inl (gD g, 1, .inr (.inr (.inr (.inl f))))) ∧ f 0 = FP.f2d (FP.fdiv (FP.i2f (itr (thS (md 0)) 0 (md 0 5).toNatClampNeg)) (FP.i2f (md 0 5)))) := by
    rcases hmf with ⟨q0, q⟩ | ⟨q0, q, q1, q2⟩
    · refine ⟨M, 1, Or.inr ⟨0, _, M, rfl, by rw [if_neg q], rfl⟩, hW, by rw [if_pos q0], fun h => absurd h (by decide)⟩
    · refine ⟨_, 0, Or.inl ⟨_, M, f0, by rw [if_pos q], by rw [q1]; exact (nanP_s q2).2.1, hf0, rfl⟩, hW.outD, by rw [if_neg q0], fun _ => ⟨_, upM_at, ?_⟩⟩
      rw [← q1]
      simp [vf_upd]
  refine lv_aload_n hx hb dL_law_2094 rfl (lv_at hl 4 rfl) ?_
  refine lv_aload hx hb dL_law_2095 (lv_at hl 1 rfl) ?_
  refine k_SX1 (n := 2) hc [.ref x, .ref (x + 205)] ⟨q_L_251, qt_L_meanThirst, qn_L, qw_L_meanThirst, by decide, by decide, by decide +kernel⟩ dL_law_2097 (c_L_meanThirst l hlf g M x (x + 205) hW.1.o hcl hO) hM hS hl.1 rfl rfl ⟨by omega, by omega⟩ ⟨by omega, by omega⟩ (Nat.le_of_ble_eq_true rfl) (fun H locs hM hS => ?_)
  refine W.widen (k := cells + 3) (n := slots + 18) (by omega) (by omega) ?_
  refine lv_istore (lv' := (6, .int kk) :: lw0 b x i) hx hb dL_law_2100 hl (by decide) rfl (fun ls hl => ?_)
  refine lv_aload_n hx hb dL_law_2102 rfl (lv_at hl 4 rfl) ?_
  have hm := c_X6_meanThirst l hlf g M2 (x + 196) md hW2.2.1 hR9.ok hf2
  generalize hfv : (if md 0 5 = 0 then FP.i2f 0 else FP.fdiv (FP.i2f (itr (thS (md 0)) 0 (md 0 5).toNatClampNeg)) (FP.i2f (md 0 5))) = fv at hm
  rw [← hkk] at hm
  refine k_V1 hc [] cw_L_254 rfl dL_law_2103 hm hW2.2.1.o hM hS hl.1 rfl rfl ⟨by omega, by omega⟩ ⟨by omega, by omega⟩ (Nat.le_of_ble_eq_true rfl) (fun H locs hM hS => ?_)
  refine lv_fstore (lv' := (7, .float fv) :: (6, .int kk) :: lw0 b x i) hx hb dL_law_2106 hl (by decide) rfl (fun ls hl => ?_)
  refine lv_aload_n hx hb dL_law_2108 rfl (lv_at hl 5 rfl) ?_
  have hW3 : WD g x (putD g M2 (x + 196) (up2 md 7 19 kk)) cs (up2 md 7 19 kk) := hW2.mod
  refine k_V1 (v := .int kk) hc [] cw_L_149 rfl dL_law_2109 (by have := c_X6_thrown l hlf g _ (x + 196) (up2 md 7 19 kk) hW3.2.1; rw [up2_at] at this; exact this) hW3.2.1.o hM hS hl.1 rfl rfl ⟨by omega, by omega⟩ ⟨by omega, by omega⟩ (Nat.le_of_ble_eq_true rfl) (fun H locs hM hS => ?_)
  refine lv_iload hx hb dL_law_2112 (lv_at hl 1 rfl) ?_
  refine lv_icmp_eq (tgt := 2119) hx hb dL_law_2114 (by decide) (fun _ => ?_) (fun c_1 => absurd rfl c_1)
  refine lv_iload hx hb dL_law_2119 (lv_at hl 1 rfl) ?_
  have hend : ∀ (H : Heap) (locs : List Loc), hR g (putD g M2 (x + 196) (up2 md 7 19 kk)) H → va_S (gA g) s.heap H locs → W p l e R s m args below meth c H locs (cells + 3) (slots + 18) Q (F0 m 2157 ls []) := fun H locs hM hS => by
    refine lv_goto (tgt := 2382) hx hb dL_law_2157 (by decide) ?_
    exact hK _ cs _ H locs ls hW3 (hR9.thr.mono (Nat.le_add_right n 1500)) hM hS (lv_sub hl [2, 3, 4, 5, 6, 7] rfl)
  refine lv_if_ne (tgt := 2157) hx hb dL_law_2121 (by decide) (fun _ => hend H locs hM hS) (fun c_2 => ?_)
  obtain ⟨f, f1, f2⟩ := hfd c_2
  have n0 : ¬ md 0 5 = 0 := fun q => by
    rw [if_pos q, c_2] at hkk
    exact absurd hkk (by decide)
  have hn : nanP fv = true := by
    rw [← hfv, if_neg n0]
    rcases hmf with ⟨q, -⟩ | ⟨-, -, q1, q2⟩
    · exact absurd q n0
    · exact q2
  rw [show FP.fdiv (FP.i2f (itr (thS (md 0)) 0 (md 0 5).toNatClampNeg)) (FP.i2f (md 0 5)) = fv by rw [← hfv, if_neg n0]] at f2
  refine lv_aload hx hb dL_law_2124 (lv_at hl 3 rfl) ?_
  refine lv_iconst (v := 0) hx hb dL_law_2126 (by decide) ?_
  refine k_dald hc hM ((putD_out (by omega)).trans f1) in01 dL_law_2127 ?_
  refine lv_fload hx hb dL_law_2128 (lv_at hl 0 rfl) ?_
  refine lv_f2d hx hb dL_law_2130 (nanP_s hn).2.1 ?_
  refine lv_dcmp hx hb dL_law_2131 ?_
  rw [show f (0 : Int32).toNatClampNeg = FP.f2d fv from f2, cmpv_eq (nanP_s hn).2.2]
  exact lv_if_eq (tgt := 2157) hx hb dL_law_2132 (by decide) (fun _ => hend H locs hM hS) (fun c_3 => absurd rfl c_3)
set_option maxHeartbeats 4000000 in
set_option maxRecDepth 100000 in
theorem sg_rightShare (hc : Cx g p l s m args meth c cL_law 9 RL) (hlf : l.stackTraces = false) (hW : WD g x M cs md) (hR9 : Rel n cs md) (hM : hR g M H) (hS : va_S (gA g) s.heap H locs) (hl : lv_has ls 9 (lw0 b x i)) (hroom : 20 ≤ R.frames ∧ 2000 ≤ R.locals) (hcell : cells + 3 ≤ R.cells) (hslot : slots + 18 ≤ R.slots) (hK : LwK p l e R s m args below meth c (cells + 3) (slots + 18) Q g b x i n) : W p l e R s m args below meth c H locs cells slots Q (F0 m 2160 ls []) := by
  have hx := hc.1
  have hb := hc.2.1
  have hmf := share_f hR9
  have hf1 : 0 < cdF (cs 0) 0 → vf_n64 (FP.ddiv (FP.i2d (cdF (cs 0) 1)) (FP.i2d (cdF (cs 0) 0))) := fun h9 => by
    rcases hmf with ⟨-, q⟩ | ⟨-, -, q1, q2⟩
    · exact absurd h9 q
    · rw [q1]; exact (nanQ_s q2).1
  have hf2 : ¬ dwM (md 0) 0 = 0 → vf_n64 (FP.ddiv (FP.i2d (dwM (md 0) 1)) (FP.i2d (dwM (md 0) 0))) := fun h9 => by
    rcases hmf with ⟨q, -⟩ | ⟨-, -, q1, q2⟩
    · exact absurd q h9
    · exact (nanQ_s q2).1
  have hcl := c_X5_rightShare l hlf g M x cs hW.1 hf1
  obtain ⟨-, -, -, f0, hf0⟩ := id hW
  obtain ⟨M2, kk, hO, hW2, hkk, hfd⟩ : ∃ (M2 : HM) (kk : Int32), hOutD g (x + 205) ["java/lang/ArithmeticException"] (if 0 < cdF (cs 0) 0 then .inl (some (.double (FP.ddiv (FP.i2d (cdF (cs 0) 1)) (FP.i2d (cdF (cs 0) 0)))), M) else .inr ("java/lang/ArithmeticException", M)) (.inl (some (.int kk), M2)) ∧ WD g x M2 cs md ∧ kk = (if dwM (md 0) 0 = 0 then 1 else 0) ∧ (kk = 0 → ∃ f, M2 (x + 205) = some (.inl (gD g, 1, .inr (.inr (.inr (.inl f))))) ∧ f 0 = FP.ddiv (FP.i2d (dwM (md 0) 1)) (FP.i2d (dwM (md 0) 0))) := by
    rcases hmf with ⟨q0, q⟩ | ⟨q0, q, q1, q2⟩
    · refine ⟨M, 1, Or.inr ⟨0, _, M, rfl, by rw [if_neg q], rfl⟩, hW, by rw [if_pos q0], fun h => absurd h (by decide)⟩
    · refine ⟨_, 0, Or.inl ⟨_, M, f0, by rw [if_pos q], hf0, rfl⟩, hW.outD, by rw [if_neg q0], fun _ => ⟨_, upM_at, ?_⟩⟩
      rw [← q1]
      simp [vf_upd]
  refine lv_aload_n hx hb dL_law_2160 rfl (lv_at hl 4 rfl) ?_
  refine lv_aload hx hb dL_law_2161 (lv_at hl 1 rfl) ?_
  refine k_SX1 (n := 2) hc [.ref x, .ref (x + 205)] ⟨q_L_255, qt_L_rightShare, qn_L, qw_L_rightShare, by decide, by decide, by decide +kernel⟩ dL_law_2163 (c_L_rightShare l hlf g M x (x + 205) hW.1.o hcl hO) hM hS hl.1 rfl rfl ⟨by omega, by omega⟩ ⟨by omega, by omega⟩ (Nat.le_of_ble_eq_true rfl) (fun H locs hM hS => ?_)
  refine W.widen (k := cells + 3) (n := slots + 18) (by omega) (by omega) ?_
  refine lv_istore (lv' := (6, .int kk) :: lw0 b x i) hx hb dL_law_2166 hl (by decide) rfl (fun ls hl => ?_)
  refine lv_aload_n hx hb dL_law_2168 rfl (lv_at hl 4 rfl) ?_
  have hm := c_X6_rightShare l hlf g M2 (x + 196) md hW2.2.1 hR9.ok hf2
  generalize hfv : (if dwM (md 0) 0 = 0 then FP.i2d 0 else FP.ddiv (FP.i2d (dwM (md 0) 1)) (FP.i2d (dwM (md 0) 0))) = fv at hm
  rw [← hkk] at hm
  refine k_V1 hc [] cw_L_257 rfl dL_law_2169 hm hW2.2.1.o hM hS hl.1 rfl rfl ⟨by omega, by omega⟩ ⟨by omega, by omega⟩ (Nat.le_of_ble_eq_true rfl) (fun H locs hM hS => ?_)
  refine lv_dstore (lv' := (7, .double fv) :: (6, .int kk) :: lw0 b x i) hx hb dL_law_2172 hl (by decide) rfl (fun ls hl => ?_)
  refine lv_aload_n hx hb dL_law_2174 rfl (lv_at hl 5 rfl) ?_
  have hW3 : WD g x (putD g M2 (x + 196) (up2 md 7 19 kk)) cs (up2 md 7 19 kk) := hW2.mod
  refine k_V1 (v := .int kk) hc [] cw_L_149 rfl dL_law_2175 (by have := c_X6_thrown l hlf g _ (x + 196) (up2 md 7 19 kk) hW3.2.1; rw [up2_at] at this; exact this) hW3.2.1.o hM hS hl.1 rfl rfl ⟨by omega, by omega⟩ ⟨by omega, by omega⟩ (Nat.le_of_ble_eq_true rfl) (fun H locs hM hS => ?_)
  refine lv_iload hx hb dL_law_2178 (lv_at hl 1 rfl) ?_
  refine lv_icmp_eq (tgt := 2185) hx hb dL_law_2180 (by decide) (fun _ => ?_) (fun c_1 => absurd rfl c_1)
  refine lv_iload hx hb dL_law_2185 (lv_at hl 1 rfl) ?_
  have hend : ∀ (H : Heap) (locs : List Loc), hR g (putD g M2 (x + 196) (up2 md 7 19 kk)) H → va_S (gA g) s.heap H locs → W p l e R s m args below meth c H locs (cells + 3) (slots + 18) Q (F0 m 2222 ls []) := fun H locs hM hS => by
    refine lv_goto (tgt := 2382) hx hb dL_law_2222 (by decide) ?_
    exact hK _ cs _ H locs ls hW3 (hR9.thr.mono (Nat.le_add_right n 1500)) hM hS (lv_sub hl [2, 3, 4, 5, 6, 7] rfl)
  refine lv_if_ne (tgt := 2222) hx hb dL_law_2187 (by decide) (fun _ => hend H locs hM hS) (fun c_2 => ?_)
  obtain ⟨f, f1, f2⟩ := hfd c_2
  have n0 : ¬ dwM (md 0) 0 = 0 := fun q => by
    rw [if_pos q, c_2] at hkk
    exact absurd hkk (by decide)
  have hn : nanQ fv = true := by
    rw [← hfv, if_neg n0]
    rcases hmf with ⟨q, -⟩ | ⟨-, -, q1, q2⟩
    · exact absurd q n0
    · exact q2
  rw [show FP.ddiv (FP.i2d (dwM (md 0) 1)) (FP.i2d (dwM (md 0) 0)) = fv by rw [← hfv, if_neg n0]] at f2
  refine lv_aload hx hb dL_law_2190 (lv_at hl 3 rfl) ?_
  refine lv_iconst (v := 0) hx hb dL_law_2192 (by decide) ?_
  refine k_dald hc hM ((putD_out (by omega)).trans f1) in01 dL_law_2193 ?_
  refine lv_dload hx hb dL_law_2194 (lv_at hl 0 rfl) ?_
  refine lv_dcmp hx hb dL_law_2196 ?_
  rw [show f (0 : Int32).toNatClampNeg = fv from f2, cmpv_eq (nanQ_s hn).2]
  exact lv_if_eq (tgt := 2222) hx hb dL_law_2197 (by decide) (fun _ => hend H locs hM hS) (fun c_3 => absurd rfl c_3)
end LW
