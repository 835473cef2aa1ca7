/-! THE LAW'S BODY: what each case has in common -/
def lw0 (b x i : Nat) : List (Nat × Value) := [(5, .int (nI i)), (4, .ref (x + 205)), (3, .ref (x + 204)), (2, .ref (x + 196)), (1, .ref x), (0, .ref b)]
theorem cmp_self (y : Int64) : lg_cmp y y = 0 := by simp [lg_cmp]
theorem toI64_b {v : Int32} (h : v = 0 ∨ v = 1) : v.toInt64 = if v = 0 then 0 else 1 := by
  rcases h with rfl | rfl
  · rfl
  · rfl
section LW
variable {p : Program} {l : Launch} {e : Env} {R : Room} {s : State} {m : MethodId} {args : Array Value} {below : List Frame} {meth : Method} {c : Code} {H : Heap} {locs : List Loc} {cells slots : Nat} {Q : State → Prop}
variable {ls : Array Slot} {rest : List Value} {g : GC} {M : HM} {b x i L n : Nat} {xs : Nat → Int32} {cs : CS} {md : FL}
/-- how a case goes on -/
def LwK (p : Program) (l : Launch) (e : Env) (R : Room) (s : State) (m : MethodId) (args : Array Value) (below : List Frame) (meth : Method) (c : Code) (cells slots : Nat) (Q : State → Prop) (g : GC) (b x i n : Nat) : Prop :=
  ∀ (M2 : HM) (cs2 : CS) (md2 : FL) (H : Heap) (locs : List Loc) (ls : Array Slot), WD g x M2 cs2 md2 → Rel (n + 1500) cs2 md2 → hR g M2 H → va_S (gA g) s.heap H locs → lv_has ls 9 (lw0 b x i) → W p l e R s m args below meth c H locs cells slots Q (F0 m 2382 ls [])
/-- an int of the script -/
theorem law_arg {pc j : Nat} (hc : Cx g p l s m args meth c cL_law 9 RL) (hX : va_X b L xs s s.heap) (hbl : b < s.heap.size) (hbA : ¬ gA g b) (hS : va_S (gA g) s.heap H locs) (h0 : ls[0]? = some (.val (.ref b))) (h5 : ls[5]? = some (.val (.int (nI i)))) (hi : i + j < L) (hL : L ≤ 2048)
    (d0 : decode cL_law pc = .ok (.aload_n 0, 1)) (d1 : decode cL_law (pc + 1) = .ok (.iload 5, 2)) (d3 : decode cL_law (pc + 3) = .ok (.iconst (j : Int), 1)) (d4 : decode cL_law (pc + 4) = .ok (.iadd, 1)) (d5 : decode cL_law (pc + 5) = .ok (.iaload, 1)) (hj : Int32.ofInt (j : Int) = nI j)
    (kk : W p l e R s m args below meth c H locs cells slots Q (F0 m (pc + 6) ls (.int (xs (i + j)) :: rest))) : W p l e R s m args below meth c H locs cells slots Q (F0 m pc ls rest) := by
  refine lv_aload_n hc.1 hc.2.1 d0 rfl h0 ?_
  refine lv_iload hc.1 hc.2.1 d1 h5 ?_
  refine lv_iconst (v := nI j) hc.1 hc.2.1 d3 hj ?_
  refine lv_iadd hc.1 hc.2.1 d4 ?_
  rw [nI_add]
  refine va_sld hc.1 hc.2.1 hX hbl hbA hS (vp_in_nI hi (by omega)) d5 ?_
  rw [nI_clamp (by omega)]
  exact kk
/-- what a case's end has at hand -/
theorem law_tail {q : Nat} {off : Int} (hc : Cx g p l s m args meth c cL_law 9 RL) (hlf : l.stackTraces = false) {bv kk : Int32} {cs2 : CS} {md2 : FL} (hW : WD g x M cs2 md2) (hR9 : Rel (n + 1500) cs2 md2) (hM : hR g M H) (hS : va_S (gA g) s.heap H locs) (hl : lv_has ls 9 ((6, .int kk) :: lw0 b x i)) (ht : md2 7 19 = kk) (hf : kk = 0 → ∃ f, M (x + 204) = some (.inl (gJ g, 1, .inr (.inl f))) ∧ f 0 = bv.toInt64)
    (hroom : 2 ≤ R.frames ∧ 100 ≤ R.locals) (hcell : cells ≤ R.cells) (hslot : slots ≤ R.slots) (hK : LwK p l e R s m args below meth c cells slots Q g b x i n)
    (d0 : decode cL_law q = .ok (.istore 7, 2)) (d2 : decode cL_law (q + 2) = .ok (.aload_n 2, 1)) (d3 : decode cL_law (q + 3) = .ok (.invokevirtual 149, 3)) (d6 : decode cL_law (q + 6) = .ok (.iload 6, 2)) (d8 : decode cL_law (q + 8) = .ok (.if_icmp .eq 5, 3)) (d13 : decode cL_law (q + 13) = .ok (.iload 6, 2)) (d15 : decode cL_law (q + 15) = .ok (.ifCond .ne 15, 3)) (d18 : decode cL_law (q + 18) = .ok (.aload_n 3, 1)) (d19 : decode cL_law (q + 19) = .ok (.iconst 0, 1)) (d20 : decode cL_law (q + 20) = .ok (.laload, 1)) (d21 : decode cL_law (q + 21) = .ok (.iload 7, 2)) (d23 : decode cL_law (q + 23) = .ok (.i2l, 1)) (d24 : decode cL_law (q + 24) = .ok (.lcmp, 1)) (d25 : decode cL_law (q + 25) = .ok (.ifCond .eq 5, 3)) (d30 : decode cL_law (q + 30) = .ok (.goto off, 3)) (ho : ((q + 30 : Nat) : Int) + off = ((2382 : Nat) : Int)) :
    W p l e R s m args below meth c H locs cells slots Q (F0 m q ls [.int bv]) := by
  have hx := hc.1
  have hb := hc.2.1
  refine lv_istore (lv' := (7, .int bv) :: (6, .int kk) :: lw0 b x i) hx hb d0 hl (by decide) rfl (fun ls hl => ?_)
  refine lv_aload_n hx hb d2 rfl (lv_at hl 5 rfl) ?_
  refine k_V1 (v := .int kk) (M1 := M) hc [] cw_L_149 rfl d3 (by have := c_X6_thrown l hlf g M (x + 196) md2 hW.2.1; rw [ht] at this; exact this) hW.2.1.o hM hS hl.1 rfl rfl ⟨hroom.1, by have := hroom.2; omega⟩ ⟨by omega, by omega⟩ (Nat.le_of_ble_eq_true rfl) (fun H locs hM hS => ?_)
  refine lv_iload hx hb d6 (lv_at hl 1 rfl) ?_
  refine lv_icmp_eq (tgt := q + 13) hx hb d8 (by omega) (fun _ => ?_) (fun c_1 => absurd rfl c_1)
  refine lv_iload hx hb d13 (lv_at hl 1 rfl) ?_
  have hend : ∀ (H : Heap) (locs : List Loc), hR g M H → va_S (gA g) s.heap H locs → W p l e R s m args below meth c H locs cells slots Q (F0 m (q + 30) ls []) := fun H locs hM hS => by
    refine lv_goto (tgt := 2382) hx hb d30 ho ?_
    exact hK M cs2 md2 H locs ls hW hR9 hM hS (lv_sub hl [2, 3, 4, 5, 6, 7] rfl)
  refine lv_if_ne (tgt := q + 30) hx hb d15 (by omega) (fun _ => hend H locs hM hS) (fun c_2 => ?_)
  obtain ⟨f, f1, f2⟩ := hf c_2
  refine lv_aload_n hx hb d18 rfl (lv_at hl 4 rfl) ?_
  refine lv_iconst (v := 0) hx hb d19 (by decide) ?_
  refine k_lald hc hM f1 in01 d20 ?_
  refine lv_iload hx hb d21 (lv_at hl 0 rfl) ?_
  refine lv_i2l hx hb d23 rfl ?_
  refine W.lcmp hx hb d24 ?_
  refine lv_if_eq (tgt := q + 30) hx hb d25 (by omega) (fun _ => hend H locs hM hS) (fun c_3 => ?_)
  refine absurd ?_ c_3
  rw [show f (0 : Int32).toNatClampNeg = bv.toInt64 from f2]
  exact cmp_self _
end LW
/-! what the contracts want of the relation -/
theorem Rel.tok {n : Nat} {cs : CS} {md : FL} (h : Rel n cs md) : tOk md := by
  obtain ⟨L, h1, h2, h3, -⟩ := h.2.2.2.1
  unfold tOk
  rw [h3]
  exact ⟨nI_pos (by omega), nI_le (b := 60) h1 (by decide)⟩
theorem Rel.sgo {n : Nat} {cs : CS} {md : FL} (h : Rel n cs md) : sgOk cs := by
  obtain ⟨L, -, -, -, -, h5, -⟩ := h.2.2.2.1
  exact h5
theorem Rel.cho {n : Nat} {cs : CS} {md : FL} (h : Rel n cs md) : ∀ k, chOk (md 5 k) := by
  obtain ⟨L, -, -, -, -, -, h6⟩ := h.2.2.2.1
  exact h6
theorem Rel.vok {n : Nat} {cs : CS} {md : FL} (h : Rel n cs md) {v : Int32} : inB v 0 (md 0 4 - 1) → vOk (md 0) v := by
  intro hv
  obtain ⟨ns, np, nh, nc, t, dh, cu, htn, h⟩ := h.1
  obtain ⟨k, hk, rfl⟩ := h.jH.mp hv
  exact h.vok hk
theorem bI_01 {c : Prop} [Decidable c] : bI c = 0 ∨ bI c = 1 := by
  by_cases h : c
  · exact Or.inr (bI_t h)
  · exact Or.inl (bI_f h)
/-- an answer of shimmers is 0 or 1 -/
theorem bres {c1 c2 c3 : Prop} [Decidable c1] [Decidable c2] [Decidable c3] {E1 E2 : String} {M M1 : HM} {v : Int32} (h : (if c1 then if c2 then .inl (some (.int (bI c3)), M) else .inr (E1, M) else .inr (E2, M) : Rs) = .inl (some (.int v), M1)) : v = 0 ∨ v = 1 := by
  by_cases h1 : c1
  · rw [if_pos h1] at h
    by_cases h2 : c2
    · rw [if_pos h2] at h
      cases h
      exact bI_01
    · rw [if_neg h2] at h
      cases h
  · rw [if_neg h1] at h
    cases h
section LWB
variable {p : Program} {l : Launch} {e : Env} {R : Room} {s : State} {m : MethodId} {args : Array Value} {below : List Frame} {meth : Method} {c : Code} {H : Heap} {locs : List Loc} {cells slots : Nat} {Q : State → Prop}
variable {ls : Array Slot} {g : GC} {M : HM} {b x i L n : Nat} {xs : Nat → Int32} {cs : CS} {md : FL}
theorem law_tailB {q : Nat} {off : Int} (hc : Cx g p l s m args meth c cL_law 9 RL) (hlf : l.stackTraces = false) {bv kk : Int32} {cs2 : CS} {md2 : FL} (hW : WD g x M cs2 md2) (hR9 : Rel (n + 1500) cs2 md2) (hM : hR g M H) (hS : va_S (gA g) s.heap H locs) (hl : lv_has ls 9 ((6, .int kk) :: lw0 b x i)) (ht : md2 7 19 = kk) (hf : kk = 0 → ∃ f, M (x + 204) = some (.inl (gJ g, 1, .inr (.inl f))) ∧ f 0 = bv.toInt64) (hB : bv = 0 ∨ bv = 1)
    (hroom : 2 ≤ R.frames ∧ 100 ≤ R.locals) (hcell : cells ≤ R.cells) (hslot : slots ≤ R.slots) (hK : LwK p l e R s m args below meth c cells slots Q g b x i n)
    (d0 : decode cL_law q = .ok (.istore 7, 2)) (d2 : decode cL_law (q + 2) = .ok (.aload_n 2, 1)) (d3 : decode cL_law (q + 3) = .ok (.invokevirtual 149, 3)) (d6 : decode cL_law (q + 6) = .ok (.iload 6, 2)) (d8 : decode cL_law (q + 8) = .ok (.if_icmp .eq 5, 3)) (d13 : decode cL_law (q + 13) = .ok (.iload 6, 2)) (d15 : decode cL_law (q + 15) = .ok (.ifCond .ne 22, 3)) (d18 : decode cL_law (q + 18) = .ok (.aload_n 3, 1)) (d19 : decode cL_law (q + 19) = .ok (.iconst 0, 1)) (d20 : decode cL_law (q + 20) = .ok (.laload, 1)) (d21 : decode cL_law (q + 21) = .ok (.iload 7, 2)) (d23 : decode cL_law (q + 23) = .ok (.ifCond .eq 7, 3)) (d26 : decode cL_law (q + 26) = .ok (.lconst 1, 1)) (d27 : decode cL_law (q + 27) = .ok (.goto 4, 3)) (d30 : decode cL_law (q + 30) = .ok (.lconst 0, 1)) (d31 : decode cL_law (q + 31) = .ok (.lcmp, 1)) (d32 : decode cL_law (q + 32) = .ok (.ifCond .eq 5, 3)) (d37 : decode cL_law (q + 37) = .ok (.goto off, 3)) (ho : ((q + 37 : Nat) : Int) + off = ((2382 : Nat) : Int)) :
    W p l e R s m args below meth c H locs cells slots Q (F0 m q ls [.int bv]) := by
  have hx := hc.1
  have hb := hc.2.1
  refine lv_istore (lv' := (7, .int bv) :: (6, .int kk) :: lw0 b x i) hx hb d0 hl (by decide) rfl (fun ls hl => ?_)
  refine lv_aload_n hx hb d2 rfl (lv_at hl 5 rfl) ?_
  refine k_V1 (v := .int kk) (M1 := M) hc [] cw_L_149 rfl d3 (by have := c_X6_thrown l hlf g M (x + 196) md2 hW.2.1; rw [ht] at this; exact this) hW.2.1.o hM hS hl.1 rfl rfl ⟨hroom.1, by have := hroom.2; omega⟩ ⟨by omega, by omega⟩ (Nat.le_of_ble_eq_true rfl) (fun H locs hM hS => ?_)
  refine lv_iload hx hb d6 (lv_at hl 1 rfl) ?_
  refine lv_icmp_eq (tgt := q + 13) hx hb d8 (by omega) (fun _ => ?_) (fun c_1 => absurd rfl c_1)
  refine lv_iload hx hb d13 (lv_at hl 1 rfl) ?_
  have hend : ∀ (H : Heap) (locs : List Loc), hR g M H → va_S (gA g) s.heap H locs → W p l e R s m args below meth c H locs cells slots Q (F0 m (q + 37) ls []) := fun H locs hM hS => by
    refine lv_goto (tgt := 2382) hx hb d37 ho ?_
    exact hK M cs2 md2 H locs ls hW hR9 hM hS (lv_sub hl [2, 3, 4, 5, 6, 7] rfl)
  refine lv_if_ne (tgt := q + 37) hx hb d15 (by omega) (fun _ => hend H locs hM hS) (fun c_2 => ?_)
  obtain ⟨f, f1, f2⟩ := hf c_2
  have f2 : f (0 : Int32).toNatClampNeg = if bv = 0 then 0 else 1 := (show f (0 : Int32).toNatClampNeg = bv.toInt64 from f2).trans (toI64_b hB)
  refine lv_aload_n hx hb d18 rfl (lv_at hl 4 rfl) ?_
  refine lv_iconst (v := 0) hx hb d19 (by decide) ?_
  refine k_lald hc hM f1 in01 d20 ?_
  refine lv_iload hx hb d21 (lv_at hl 0 rfl) ?_
  refine lv_if_eq (tgt := q + 30) hx hb d23 (by omega) (fun c_3 => ?_) (fun c_3 => ?_)
  · refine lv_lconst (v := 0) hx hb d30 rfl ?_
    refine W.lcmp hx hb d31 ?_
    refine lv_if_eq (tgt := q + 37) hx hb d32 (by omega) (fun _ => hend H locs hM hS) (fun c_4 => absurd ?_ c_4)
    rw [f2, if_pos c_3]
    exact cmp_self _
  · refine lv_lconst (v := 1) hx hb d26 rfl ?_
    refine lv_goto (tgt := q + 31) hx hb d27 (by omega) ?_
    refine W.lcmp hx hb d31 ?_
    refine lv_if_eq (tgt := q + 37) hx hb d32 (by omega) (fun _ => hend H locs hM hS) (fun c_4 => absurd ?_ c_4)
    rw [f2, if_neg c_3]
    exact cmp_self _
end LWB
