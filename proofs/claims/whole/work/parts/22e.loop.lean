/-! THE LAW'S LOOP, and where it starts -/
theorem rel0 : Rel 0 cs0 md0 := by
  have hc0 : cs0 0 = flJ 30 := rfl
  have hm0 : md0 0 = upd (upd (fun _ => 0) 1 5) 6 60 := rfl
  have hz : ∀ j, j ≠ 1 → j ≠ 6 → md0 0 j = 0 := fun j h1 h2 => by rw [hm0]; simp only [upd]; rw [if_neg h2, if_neg h1]
  have hch : chOk 0 := by unfold chOk; decide
  refine ⟨⟨0, 0, 0, 0, 0, 5, 60, Nat.le_refl 0, ?_⟩, ⟨0, 0, by decide, by decide, rfl, rfl, rfl, fun j hj => absurd hj (Nat.not_lt_zero j)⟩, ⟨rfl, fun h => absurd rfl h⟩, ⟨0, by decide, rfl, rfl, fun k hk => absurd hk (Nat.not_lt_zero k), fun k => ?_, fun k => ?_⟩, ⟨0, by decide, rfl, rfl, fun k hk => absurd hk (Nat.not_lt_zero k), fun k => ?_⟩, ⟨rfl, rfl, rfl, rfl⟩⟩
  · rw [hc0]
    refine ⟨by decide, ⟨rfl, rfl, rfl, rfl, rfl, rfl, rfl, rfl, rfl⟩, ⟨rfl, rfl, rfl, rfl⟩, ⟨rfl, rfl⟩, ⟨rfl, rfl⟩, ⟨rfl, rfl⟩, rfl, rfl, fun k hk => absurd hk (Nat.not_lt_zero k), ⟨fun k hk => absurd hk (Nat.not_lt_zero k), fun k hk => ⟨0, by decide, hz _ (by omega) (by omega)⟩⟩, ⟨fun k hk => absurd hk (Nat.not_lt_zero k), fun h hh k hk _ => ?_⟩, fun k hk => absurd hk (Nat.not_lt_zero k)⟩
    show (if (3 : Nat) = 9 then _ else if (3 : Nat) = 3 then (if 10 * h + k < 30 then (-1 : Int32) else 0) else _) = -1
    rw [if_neg (show ¬ (3 : Nat) = 9 by decide), if_pos rfl, if_pos (by omega)]
  · exact hch
  · exact hch
  · exact hch
theorem and63 (x : Int32) : ∃ k, k < 64 ∧ x &&& 63 = nI k := by
  have e : x = nI x.toBitVec.toNat := by
    apply Int32.toBitVec_inj.mp
    show x.toBitVec = BitVec.ofNat 32 x.toBitVec.toNat
    simp
  have h : nI x.toBitVec.toNat &&& 63 = nI (x.toBitVec.toNat % 2 ^ 6) := pk_andN x.toBitVec.isLt 6 rfl
  rw [← e] at h
  exact ⟨_, Nat.mod_lt _ (by decide), h⟩
theorem tb_k {k : Nat} (h : k < 38) : ¬ (nI k).toInt < 0 ∧ ¬ (37 : Int) < (nI k).toInt ∧ ((nI k).toInt - 0).toNat = k := by
  rw [nI_toInt (by omega)]
  omega
theorem lp_cmp {i L : Nat} (hi : i < 10000) (hL : L ≤ 2048) : (nI L - 4 < nI i ↔ L < i + 4) := by
  rw [Int32.lt_iff_toInt_lt, nI_toInt (by omega), nI_z (by omega), show (4 : Int32) = zI 4 from rfl, zI_sub, zI_t (by omega) (by omega)]
  omega
section LW
variable {p : Program} {l : Launch} {e : Env} {R : Room} {s : State} {m : MethodId} {args : Array Value} {below : List Frame} {meth : Method} {c : Code} {Q : State → Prop}
variable {g : GC} {b x L c0 s0 : Nat} {xs : Nat → Int32}
set_option maxHeartbeats 4000000 in
set_option maxRecDepth 100000 in
theorem law_loop (hc : Cx g p l s m args meth c cL_law 9 RL) (hlf : l.stackTraces = false) (hX : va_X b L xs s s.heap) (hbl : b < s.heap.size) (hbA : ¬ gA g b) (hL : L ≤ 2048) (hroom : 20 ≤ R.frames ∧ 2000 ≤ R.locals) (hcell : c0 + 1545 ≤ R.cells) (hslot : s0 + 9270 ≤ R.slots)
    (hend : ∀ (H : Heap) (locs : List Loc) (ls : Array Slot) (cells slots : Nat), va_S (gA g) s.heap H locs → cells ≤ R.cells → slots ≤ R.slots → W p l e R s m args below meth c H locs cells slots Q (F0 m 2388 ls [])) (d : Nat) :
    ∀ (j : Nat) (M : HM) (cs : CS) (md : FL) (H : Heap) (locs : List Loc) (ls : Array Slot), j + d = 513 → WD g x M cs md → Rel (1500 * j) cs md → hR g M H → va_S (gA g) s.heap H locs → lv_has ls 9 (lw0 b x (4 * j)) → W p l e R s m args below meth c H locs (c0 + 3 * j) (s0 + 18 * j) Q (F0 m 28 ls []) := by
  have hx := hc.1
  have hb := hc.2.1
  induction d with
  | zero =>
    intro j M cs md H locs ls hj hW hR9 hM hS hl
    refine lv_iload hx hb dL_law_28 (lv_at hl 0 rfl) ?_
    refine lv_aload_n hx hb dL_law_30 rfl (lv_at hl 5 rfl) ?_
    refine va_slen hx hb hX hbl hbA hS dL_law_31 ?_
    refine lv_iconst (v := 4) hx hb dL_law_32 (by decide) ?_
    refine lv_isub hx hb dL_law_33 ?_
    refine lv_icmp_gt (tgt := 2388) hx hb dL_law_34 (by decide) (fun _ => hend H locs ls _ _ hS (by omega) (by omega)) (fun q => absurd ((lp_cmp (L := L) (i := 4 * j) (by omega) hL).mpr (by omega)) q)
  | succ d ih =>
    intro j M cs md H locs ls hj hW hR9 hM hS hl
    refine lv_iload hx hb dL_law_28 (lv_at hl 0 rfl) ?_
    refine lv_aload_n hx hb dL_law_30 rfl (lv_at hl 5 rfl) ?_
    refine va_slen hx hb hX hbl hbA hS dL_law_31 ?_
    refine lv_iconst (v := 4) hx hb dL_law_32 (by decide) ?_
    refine lv_isub hx hb dL_law_33 ?_
    refine lv_icmp_gt (tgt := 2388) hx hb dL_law_34 (by decide) (fun _ => hend H locs ls _ _ hS (by omega) (by omega)) (fun q => ?_)
    have hi : 4 * j + 3 < L := by
      have := mt (lp_cmp (L := L) (i := 4 * j) (by omega) hL).mpr q
      omega
    refine lv_aload_n hx hb dL_law_37 rfl (lv_at hl 5 rfl) ?_
    refine lv_iload hx hb dL_law_38 (lv_at hl 0 rfl) ?_
    refine va_sld hx hb hX hbl hbA hS (vp_in_nI (by omega) (by omega)) dL_law_40 ?_
    rw [nI_clamp (by omega)]
    refine lv_bipush (v := 63) hx hb dL_law_41 (by decide) ?_
    refine lv_iand hx hb dL_law_43 ?_
    obtain ⟨k, hk, e9⟩ := and63 (xs (4 * j))
    rw [e9]
    have hK : LwK p l e R s m args below meth c (c0 + 3 * j + 3) (s0 + 18 * j + 18) Q g b x (4 * j) (1500 * j) := by
      intro M2 cs2 md2 H locs ls hW hR9 hM hS hl
      refine lv_iinc (lv' := lw0 b x (4 * (j + 1))) hx hb dL_law_2382 hl (k := 0) rfl (show nI (4 * j) + Int32.ofInt 4 = nI (4 * (j + 1)) from nI_add (4 * j) 4) (by decide) rfl (fun ls hl => ?_)
      refine lv_goto (tgt := 28) hx hb dL_law_2385 (by decide) ?_
      exact ih (j + 1) M2 cs2 md2 H locs ls (by omega) hW hR9 hM hS hl
    have hcc : c0 + 3 * j + 3 ≤ R.cells := by omega
    have hss : s0 + 18 * j + 18 ≤ R.slots := by omega
    have hn : 1500 * j + 3000 < 2 ^ 30 := by omega
    have hcases : k = 0 ∨ k = 1 ∨ k = 2 ∨ k = 3 ∨ k = 4 ∨ k = 5 ∨ k = 6 ∨ k = 7 ∨ k = 8 ∨ k = 9 ∨ k = 10 ∨ k = 11 ∨ k = 12 ∨ k = 13 ∨ k = 14 ∨ k = 15 ∨ k = 16 ∨ k = 17 ∨ k = 18 ∨ k = 19 ∨ k = 20 ∨ k = 21 ∨ k = 22 ∨ k = 23 ∨ k = 24 ∨ k = 25 ∨ k = 26 ∨ k = 27 ∨ k = 28 ∨ k = 29 ∨ k = 30 ∨ k = 31 ∨ k = 32 ∨ k = 33 ∨ k = 34 ∨ k = 35 ∨ k = 36 ∨ k = 37 ∨ 38 ≤ k := by omega
    rcases hcases with rfl | rfl | rfl | rfl | rfl | rfl | rfl | rfl | rfl | rfl | rfl | rfl | rfl | rfl | rfl | rfl | rfl | rfl | rfl | rfl | rfl | rfl | rfl | rfl | rfl | rfl | rfl | rfl | rfl | rfl | rfl | rfl | rfl | rfl | rfl | rfl | rfl | rfl | h38
    · exact lv_tableIn (tgt := 212) hx hb dL_law_44 (tb_k (k := 0) (by decide)).1 (tb_k (k := 0) (by decide)).2.1 (by rw [(tb_k (k := 0) (by decide)).2.2]; rfl) (by decide) (sg_stake hc hlf hX hbl hbA hW hR9 hn hM hS hl hi hL hroom hcc hss hK)
    · exact lv_tableIn (tgt := 268) hx hb dL_law_44 (tb_k (k := 1) (by decide)).1 (tb_k (k := 1) (by decide)).2.1 (by rw [(tb_k (k := 1) (by decide)).2.2]; rfl) (by decide) (sg_post hc hlf hX hbl hbA hW hR9 hn hM hS hl hi hL hroom hcc hss hK)
    · exact lv_tableIn (tgt := 336) hx hb dL_law_44 (tb_k (k := 2) (by decide)).1 (tb_k (k := 2) (by decide)).2.1 (by rw [(tb_k (k := 2) (by decide)).2.2]; rfl) (by decide) (sg_sheet hc hlf hX hbl hbA hW hR9 hn hM hS hl hi hL hroom hcc hss hK)
    · exact lv_tableIn (tgt := 380) hx hb dL_law_44 (tb_k (k := 3) (by decide)).1 (tb_k (k := 3) (by decide)).2.1 (by rw [(tb_k (k := 3) (by decide)).2.2]; rfl) (by decide) (sg_heat hc hlf hX hbl hbA hW hR9 hn hM hS hl hi hL hroom hcc hss hK)
    · exact lv_tableIn (tgt := 436) hx hb dL_law_44 (tb_k (k := 4) (by decide)).1 (tb_k (k := 4) (by decide)).2.1 (by rw [(tb_k (k := 4) (by decide)).2.2]; rfl) (by decide) (sg_sight hc hlf hX hbl hbA hW hR9 hn hM hS hl hi hL hroom hcc hss hK)
    · exact lv_tableIn (tgt := 516) hx hb dL_law_44 (tb_k (k := 5) (by decide)).1 (tb_k (k := 5) (by decide)).2.1 (by rw [(tb_k (k := 5) (by decide)).2.2]; rfl) (by decide) (sg_erase hc hlf hX hbl hbA hW hR9 hn hM hS hl hi hL hroom hcc hss hK)
    · exact lv_tableIn (tgt := 584) hx hb dL_law_44 (tb_k (k := 6) (by decide)).1 (tb_k (k := 6) (by decide)).2.1 (by rw [(tb_k (k := 6) (by decide)).2.2]; rfl) (by decide) (sg_camel hc hlf hX hbl hbA hW hR9 hn hM hS hl hi hL hroom hcc hss hK)
    · exact lv_tableIn (tgt := 640) hx hb dL_law_44 (tb_k (k := 7) (by decide)).1 (tb_k (k := 7) (by decide)).2.1 (by rw [(tb_k (k := 7) (by decide)).2.2]; rfl) (by decide) (sg_bell hc hlf hX hbl hbA hW hR9 hn hM hS hl hi hL hroom hcc hss hK)
    · exact lv_tableIn (tgt := 696) hx hb dL_law_44 (tb_k (k := 8) (by decide)).1 (tb_k (k := 8) (by decide)).2.1 (by rw [(tb_k (k := 8) (by decide)).2.2]; rfl) (by decide) (sg_tie hc hlf hX hbl hbA hW hR9 hn hM hS hl hi hL hroom hcc hss hK)
    · exact lv_tableIn (tgt := 752) hx hb dL_law_44 (tb_k (k := 9) (by decide)).1 (tb_k (k := 9) (by decide)).2.1 (by rw [(tb_k (k := 9) (by decide)).2.2]; rfl) (by decide) (sg_loose hc hlf hX hbl hbA hW hR9 hn hM hS hl hi hL hroom hcc hss hK)
    · exact lv_tableIn (tgt := 808) hx hb dL_law_44 (tb_k (k := 10) (by decide)).1 (tb_k (k := 10) (by decide)).2.1 (by rw [(tb_k (k := 10) (by decide)).2.2]; rfl) (by decide) (sg_drink hc hlf hX hbl hbA hW hR9 hn hM hS hl hi hL hroom hcc hss hK)
    · exact lv_tableIn (tgt := 864) hx hb dL_law_44 (tb_k (k := 11) (by decide)).1 (tb_k (k := 11) (by decide)).2.1 (by rw [(tb_k (k := 11) (by decide)).2.2]; rfl) (by decide) (sg_water hc hlf hX hbl hbA hW hR9 hn hM hS hl hi hL hroom hcc hss hK)
    · exact lv_tableIn (tgt := 920) hx hb dL_law_44 (tb_k (k := 12) (by decide)).1 (tb_k (k := 12) (by decide)).2.1 (by rw [(tb_k (k := 12) (by decide)).2.2]; rfl) (by decide) (sg_hours hc hlf hX hbl hbA hW hR9 hn hM hS hl hi hL hroom hcc hss hK)
    · exact lv_tableIn (tgt := 976) hx hb dL_law_44 (tb_k (k := 13) (by decide)).1 (tb_k (k := 13) (by decide)).2.1 (by rw [(tb_k (k := 13) (by decide)).2.2]; rfl) (by decide) (sg_stakeAt hc hlf hX hbl hbA hW hR9 hn hM hS hl hi hL hroom hcc hss hK)
    · exact lv_tableIn (tgt := 1032) hx hb dL_law_44 (tb_k (k := 14) (by decide)).1 (tb_k (k := 14) (by decide)).2.1 (by rw [(tb_k (k := 14) (by decide)).2.2]; rfl) (by decide) (sg_postOf hc hlf hX hbl hbA hW hR9 hn hM hS hl hi hL hroom hcc hss hK)
    · exact lv_tableIn (tgt := 1116) hx hb dL_law_44 (tb_k (k := 15) (by decide)).1 (tb_k (k := 15) (by decide)).2.1 (by rw [(tb_k (k := 15) (by decide)).2.2]; rfl) (by decide) (sg_camelOf hc hlf hX hbl hbA hW hR9 hn hM hS hl hi hL hroom hcc hss hK)
    · exact lv_tableIn (tgt := 1184) hx hb dL_law_44 (tb_k (k := 16) (by decide)).1 (tb_k (k := 16) (by decide)).2.1 (by rw [(tb_k (k := 16) (by decide)).2.2]; rfl) (by decide) (sg_drawnAt hc hlf hX hbl hbA hW hR9 hn hM hS hl hi hL hroom hcc hss hK)
    · exact lv_tableIn (tgt := 1252) hx hb dL_law_44 (tb_k (k := 17) (by decide)).1 (tb_k (k := 17) (by decide)).2.1 (by rw [(tb_k (k := 17) (by decide)).2.2]; rfl) (by decide) (sg_wrongBy hc hlf hX hbl hbA hW hR9 hn hM hS hl hi hL hroom hcc hss hK)
    · exact lv_tableIn (tgt := 1308) hx hb dL_law_44 (tb_k (k := 18) (by decide)).1 (tb_k (k := 18) (by decide)).2.1 (by rw [(tb_k (k := 18) (by decide)).2.2]; rfl) (by decide) (sg_seems hc hlf hX hbl hbA hW hR9 hn hM hS hl hi hL hroom hcc hss hK)
    · exact lv_tableIn (tgt := 1376) hx hb dL_law_44 (tb_k (k := 19) (by decide)).1 (tb_k (k := 19) (by decide)).2.1 (by rw [(tb_k (k := 19) (by decide)).2.2]; rfl) (by decide) (sg_seemsAgain hc hlf hX hbl hbA hW hR9 hn hM hS hl hi hL hroom hcc hss hK)
    · exact lv_tableIn (tgt := 1444) hx hb dL_law_44 (tb_k (k := 20) (by decide)).1 (tb_k (k := 20) (by decide)).2.1 (by rw [(tb_k (k := 20) (by decide)).2.2]; rfl) (by decide) (sg_shimmers hc hlf hX hbl hbA hW hR9 hn hM hS hl hi hL hroom hcc hss hK)
    · exact lv_tableIn (tgt := 1519) hx hb dL_law_44 (tb_k (k := 21) (by decide)).1 (tb_k (k := 21) (by decide)).2.1 (by rw [(tb_k (k := 21) (by decide)).2.2]; rfl) (by decide) (sg_bestPost hc hlf hX hbl hbA hW hR9 hn hM hS hl hi hL hroom hcc hss hK)
    · exact lv_tableIn (tgt := 1575) hx hb dL_law_44 (tb_k (k := 22) (by decide)).1 (tb_k (k := 22) (by decide)).2.1 (by rw [(tb_k (k := 22) (by decide)).2.2]; rfl) (by decide) (sg_clearIn hc hlf hX hbl hbA hW hR9 hn hM hS hl hi hL hroom hcc hss hK)
    · exact lv_tableIn (tgt := 1643) hx hb dL_law_44 (tb_k (k := 23) (by decide)).1 (tb_k (k := 23) (by decide)).2.1 (by rw [(tb_k (k := 23) (by decide)).2.2]; rfl) (by decide) (sg_heatIn hc hlf hX hbl hbA hW hR9 hn hM hS hl hi hL hroom hcc hss hK)
    · exact lv_tableIn (tgt := 1699) hx hb dL_law_44 (tb_k (k := 24) (by decide)).1 (tb_k (k := 24) (by decide)).2.1 (by rw [(tb_k (k := 24) (by decide)).2.2]; rfl) (by decide) (sg_lostIn hc hlf hX hbl hbA hW hR9 hn hM hS hl hi hL hroom hcc hss hK)
    · exact lv_tableIn (tgt := 1755) hx hb dL_law_44 (tb_k (k := 25) (by decide)).1 (tb_k (k := 25) (by decide)).2.1 (by rw [(tb_k (k := 25) (by decide)).2.2]; rfl) (by decide) (sg_nearest hc hlf hX hbl hbA hW hR9 hn hM hS hl hi hL hroom hcc hss hK)
    · exact lv_tableIn (tgt := 1811) hx hb dL_law_44 (tb_k (k := 26) (by decide)).1 (tb_k (k := 26) (by decide)).2.1 (by rw [(tb_k (k := 26) (by decide)).2.2]; rfl) (by decide) (sg_append hc hlf hX hbl hbA hW hR9 hn hM hS hl hi hL hroom hcc hss hK)
    · exact lv_tableIn (tgt := 1869) hx hb dL_law_44 (tb_k (k := 27) (by decide)).1 (tb_k (k := 27) (by decide)).2.1 (by rw [(tb_k (k := 27) (by decide)).2.2]; rfl) (by decide) (sg_commands hc hlf hX hbl hbA hW hR9 hn hM hS hl hi hL hroom hcc hss hK)
    · exact lv_tableIn (tgt := 1913) hx hb dL_law_44 (tb_k (k := 28) (by decide)).1 (tb_k (k := 28) (by decide)).2.1 (by rw [(tb_k (k := 28) (by decide)).2.2]; rfl) (by decide) (sg_faultPosition hc hlf hW hR9 hM hS hl hroom hcc hss hK)
    · exact lv_tableIn (tgt := 1926) hx hb dL_law_44 (tb_k (k := 29) (by decide)).1 (tb_k (k := 29) (by decide)).2.1 (by rw [(tb_k (k := 29) (by decide)).2.2]; rfl) (by decide) (sg_reason hc hlf hX hbl hbA hW hR9 hn hM hS hl hi hL hroom hcc hss hK)
    · exact lv_tableIn (tgt := 1982) hx hb dL_law_44 (tb_k (k := 30) (by decide)).1 (tb_k (k := 30) (by decide)).2.1 (by rw [(tb_k (k := 30) (by decide)).2.2]; rfl) (by decide) (sg_line hc hlf hX hbl hbA hW hR9 hn hM hS hl hi hL hroom hcc hss hK)
    · exact lv_tableIn (tgt := 2038) hx hb dL_law_44 (tb_k (k := 31) (by decide)).1 (tb_k (k := 31) (by decide)).2.1 (by rw [(tb_k (k := 31) (by decide)).2.2]; rfl) (by decide) (sg_character hc hlf hX hbl hbA hW hR9 hn hM hS hl hi hL hroom hcc hss hK)
    · exact lv_tableIn (tgt := 2094) hx hb dL_law_44 (tb_k (k := 32) (by decide)).1 (tb_k (k := 32) (by decide)).2.1 (by rw [(tb_k (k := 32) (by decide)).2.2]; rfl) (by decide) (sg_meanThirst hc hlf hW hR9 hM hS hl hroom hcc hss hK)
    · exact lv_tableIn (tgt := 2160) hx hb dL_law_44 (tb_k (k := 33) (by decide)).1 (tb_k (k := 33) (by decide)).2.1 (by rw [(tb_k (k := 33) (by decide)).2.2]; rfl) (by decide) (sg_rightShare hc hlf hW hR9 hM hS hl hroom hcc hss hK)
    · exact lv_tableIn (tgt := 2225) hx hb dL_law_44 (tb_k (k := 34) (by decide)).1 (tb_k (k := 34) (by decide)).2.1 (by rw [(tb_k (k := 34) (by decide)).2.2]; rfl) (by decide) (sg_account hc hlf hX hbl hbA hW hR9 hn hM hS hl hi hL hroom hcc hss hK)
    · exact lv_tableIn (tgt := 2281) hx hb dL_law_44 (tb_k (k := 35) (by decide)).1 (tb_k (k := 35) (by decide)).2.1 (by rw [(tb_k (k := 35) (by decide)).2.2]; rfl) (by decide) (sg_undo hc hlf hX hbl hbA hW hR9 hn hM hS hl hi hL hroom hcc hss hK)
    · exact lv_tableIn (tgt := 2325) hx hb dL_law_44 (tb_k (k := 36) (by decide)).1 (tb_k (k := 36) (by decide)).2.1 (by rw [(tb_k (k := 36) (by decide)).2.2]; rfl) (by decide) (sg_save hc hlf hW hR9 hM hS hl hroom hcc hss hK)
    · exact lv_tableIn (tgt := 2338) hx hb dL_law_44 (tb_k (k := 37) (by decide)).1 (tb_k (k := 37) (by decide)).2.1 (by rw [(tb_k (k := 37) (by decide)).2.2]; rfl) (by decide) (sg_restore hc hlf hX hbl hbA hW hR9 hn hM hS hl hi hL hroom hcc hss hK)
    · refine lv_tableOut (tgt := 2382) hx hb dL_law_44 (Or.inr (by rw [nI_toInt (by omega)]; omega)) (by decide) ?_
      refine lv_iinc (lv' := lw0 b x (4 * (j + 1))) hx hb dL_law_2382 hl (k := 0) rfl (show nI (4 * j) + Int32.ofInt 4 = nI (4 * (j + 1)) from nI_add (4 * j) 4) (by decide) rfl (fun ls hl => ?_)
      refine lv_goto (tgt := 28) hx hb dL_law_2385 (by decide) ?_
      exact W.widen (by omega) (by omega) (ih (j + 1) M cs md H locs ls (by omega) hW (hR9.mono (by omega)) hM hS hl)
end LW
