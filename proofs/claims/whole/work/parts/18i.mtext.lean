/-! the reference reads a text -/
theorem in3 {v : Int32} (h : ¬ v < 0 ∧ v < 3) : vp_in v 3 := by
  obtain ⟨j, hj, rfl⟩ := ok_nI (n := 3) rfl h
  exact vp_in_nI hj (by decide)
theorem w12 {w : Int32} (h : w = 1 ∨ w = 2) : 1 ≤ w.toNatClampNeg := by rcases h with rfl | rfl <;> decide
theorem k_le0 {k : Nat} (hk : k < 2 ^ 31) : nI k ≤ 0 ↔ k = 0 := by
  rw [Int32.le_iff_toInt_le, nI_toInt hk]
  show (k : Int) ≤ 0 ↔ _
  omega
theorem dg_finT {g : GC} {M : HM} {q : Nat} {D u : FL} {P : Prop} [Decidable P] (h : D = u) (hp : P) : (.inl (some (.int (bI P)), putD g M q D) : Rs) = .inl (some (.int 1), putD g M q u) := by rw [h, bI_t hp]
theorem dg_finF {g : GC} {M : HM} {q : Nat} {D u : FL} {P : Prop} [Decidable P] (h : D = u) (hp : ¬ P) : (.inl (some (.int (bI P)), putD g M q D) : Rs) = .inl (some (.int 0), putD g M q u) := by rw [h, bI_f hp]

set_option maxHeartbeats 4000000 in
set_option maxRecDepth 100000 in
theorem c_X6_isNext (l : Launch) (hlf : l.stackTraces = false) (g : GC) (M : HM) (q : Nat) (md : FL) (v : Int32) (hW : MdAt g M q md) (hA : aOk md) : KM g l yX6_isNext cX6_isNext 2 (some .boolean) 1 0 0 [.ref q, .int v] M (.inl (some (.int (bI (nxP md v))), (putD g M q (nxS md v)))) := by
  refine k_meth hlf (by decide) (Nat.le_of_ble_eq_true rfl) fun p e s m below meth c ls hc hr hnx hM hS hl => ?_
  have hc : Cx g p l s m [.ref q, .int v].toArray meth c cX6_isNext 2 RX6 := hc
  have hx := hc.1
  have hb := hc.2.1
  have hl : lv_has ls 2 [(0, .ref q), (1, .int v)] := hl
  refine lv_aload_n hx hb dX6_isNext_0 rfl (lv_at hl 0 rfl) ?_
  refine gt_X6_166 hc dX6_isNext_1 hM hW.o (v := .int (md 7 10)) rfl ?_
  refine lv_aload_n hx hb dX6_isNext_4 rfl (lv_at hl 0 rfl) ?_
  refine gt_X6_163 hc dX6_isNext_5 hM hW.o (v := .int (md 7 9)) rfl ?_
  refine lv_icmp_eq (tgt := 24) hx hb dX6_isNext_8 (by decide) (fun c_8 => ?_) (fun c_8 => ?_)
  · skip
    refine lv_iconst (v := 0) hx hb dX6_isNext_24 (by decide) ?_
    exact k_zret hc hr dX6_isNext_25 hM hS (by first | rfl | exact bI_n) (Nat.le_of_ble_eq_true rfl) (Nat.le_of_ble_eq_true rfl) (by first | (simp only [nxS, nxP, bI, eq_true c_8, eq_self, bM_l, bM_r, rsM_l, rsM_r, seV_l, seV_r, snE_l, snE_r, up1_at, up1_up1, up2_up2, not_false_eq_true, not_true_eq_false, and_true, true_and, and_false, false_and, and_self, ↓reduceIte, or_true, true_or, or_self, or_false, false_or]; done) | (simp only [nxS, nxP, bI, eq_true c_8, eq_self, bM_l, bM_r, rsM_l, rsM_r, seV_l, seV_r, snE_l, snE_r, up1_at, up1_up1, up2_up2, not_false_eq_true, not_true_eq_false, and_true, true_and, and_false, false_and, and_self, ↓reduceIte, or_true, true_or, or_self, or_false, false_or]; rw [putD_same hW]))
  · skip
    refine lv_aload_n hx hb dX6_isNext_11 rfl (lv_at hl 0 rfl) ?_
    refine gt_X6_25 hc dX6_isNext_12 hM hW.o rfl ?_
    refine lv_aload_n hx hb dX6_isNext_15 rfl (lv_at hl 0 rfl) ?_
    refine gt_X6_166 hc dX6_isNext_16 hM hW.o (v := .int (md 7 10)) rfl ?_
    refine k_cald hc hM hW.tx (aIn hA c_8) dX6_isNext_19 ?_
    refine lv_iload_n hx hb dX6_isNext_20 rfl (lv_at hl 1 rfl) ?_
    refine lv_icmp_eq (tgt := 26) hx hb dX6_isNext_21 (by decide) (fun c_21 => ?_) (fun c_21 => ?_)
    · skip
      refine lv_aload_n hx hb dX6_isNext_26 rfl (lv_at hl 0 rfl) ?_
      refine lv_dup hx hb dX6_isNext_27 rfl ?_
      refine gt_X6_166 hc dX6_isNext_28 hM hW.o (v := .int (md 7 10)) rfl ?_
      refine lv_iconst (v := 1) hx hb dX6_isNext_31 (by decide) ?_
      refine lv_iadd hx hb dX6_isNext_32 ?_
      refine pt_X6_166 hc dX6_isNext_33 hM hS hW.o rfl rfl (Nat.le_of_ble_eq_true rfl) (fun H locs hM hS => ?_)
      have hM := hR.eq hM (putD_sc hW 10 (v := ((md 7 10) + 1)) md_s10)
      have hW := MdAt.put (g := g) (M := M) (m := q) (md := (up2 md 7 10 ((md 7 10) + 1)))
      refine lv_iconst (v := 1) hx hb dX6_isNext_36 (by decide) ?_
      exact k_zret hc hr dX6_isNext_37 hM hS (by first | rfl | exact bI_n) (Nat.le_of_ble_eq_true rfl) (Nat.le_of_ble_eq_true rfl) (by first | (simp only [nxS, nxP, bI, eq_false c_8, eq_true c_21, eq_self, bM_l, bM_r, rsM_l, rsM_r, seV_l, seV_r, snE_l, snE_r, up1_at, up1_up1, up2_up2, not_false_eq_true, not_true_eq_false, and_true, true_and, and_false, false_and, and_self, ↓reduceIte, or_true, true_or, or_self, or_false, false_or]; done) | (simp only [nxS, nxP, bI, eq_false c_8, eq_true c_21, eq_self, bM_l, bM_r, rsM_l, rsM_r, seV_l, seV_r, snE_l, snE_r, up1_at, up1_up1, up2_up2, not_false_eq_true, not_true_eq_false, and_true, true_and, and_false, false_and, and_self, ↓reduceIte, or_true, true_or, or_self, or_false, false_or]; rw [putD_same hW]))
    · skip
      refine lv_iconst (v := 0) hx hb dX6_isNext_24 (by decide) ?_
      exact k_zret hc hr dX6_isNext_25 hM hS (by first | rfl | exact bI_n) (Nat.le_of_ble_eq_true rfl) (Nat.le_of_ble_eq_true rfl) (by first | (simp only [nxS, nxP, bI, eq_false c_8, eq_false c_21, eq_self, bM_l, bM_r, rsM_l, rsM_r, seV_l, seV_r, snE_l, snE_r, up1_at, up1_up1, up2_up2, not_false_eq_true, not_true_eq_false, and_true, true_and, and_false, false_and, and_self, ↓reduceIte, or_true, true_or, or_self, or_false, false_or]; done) | (simp only [nxS, nxP, bI, eq_false c_8, eq_false c_21, eq_self, bM_l, bM_r, rsM_l, rsM_r, seV_l, seV_r, snE_l, snE_r, up1_at, up1_up1, up2_up2, not_false_eq_true, not_true_eq_false, and_true, true_and, and_false, false_and, and_self, ↓reduceIte, or_true, true_or, or_self, or_false, false_or]; rw [putD_same hW]))
set_option maxHeartbeats 4000000 in
set_option maxRecDepth 100000 in
theorem c_X6_digits (l : Launch) (hlf : l.stackTraces = false) (g : GC) (M : HM) (q : Nat) (md : FL) (v : Int32) (w : Int32) (hW : MdAt g M q md) (hA : aOk md) (hv3 : ¬ v < 0 ∧ v < 3) (hw : w = 1 ∨ w = 2) : KM g l yX6_digits cX6_digits 4 (some .boolean) 2 0 0 [.ref q, .int v, .int w] M (.inl (some (.int (bI (dgQ (dg0 md v)))), (putD g M q (dgT md v w)))) := by
  refine k_meth hlf (by decide) (Nat.le_of_ble_eq_true rfl) fun p e s m below meth c ls hc hr hnx hM hS hl => ?_
  have hc : Cx g p l s m [.ref q, .int v, .int w].toArray meth c cX6_digits 4 RX6 := hc
  have hx := hc.1
  have hb := hc.2.1
  have hl : lv_has ls 4 [(0, .ref q), (1, .int v), (2, .int w)] := hl
  refine lv_iconst (v := 0) hx hb dX6_digits_0 (by decide) ?_
  refine lv_istore_n (lv' := [(3, .int 0), (0, .ref q), (1, .int v), (2, .int w)]) hx hb dX6_digits_1 rfl hl (by decide) rfl (fun ls hl => ?_)
  refine lv_aload_n hx hb dX6_digits_2 rfl (lv_at hl 1 rfl) ?_
  refine gt_X6_29 hc dX6_digits_3 hM hW.o rfl ?_
  refine lv_iload_n hx hb dX6_digits_6 rfl (lv_at hl 2 rfl) ?_
  refine lv_iconst (v := 0) hx hb dX6_digits_7 (by decide) ?_
  refine k_iast hc hM hS (hW.ar 6 (by decide) (by decide) rfl rfl) (in3 hv3) dX6_digits_8 (fun H locs hM hS => ?_)
  have hM := hR.eq hM (putD_ar hW 6 (by decide) (by decide) rfl rfl)
  have hW := MdAt.put (g := g) (M := M) (m := q) (md := (up1 md 6 (upd (md 6) v.toNatClampNeg 0)))
  have hM : hR g (putD g M q (dg0 md v)) H := hM
  have hW := MdAt.put (g := g) (M := M) (m := q) (md := (dg0 md v))
  have lp_9 : ∀ (D k : Nat) (u : FL), w.toNatClampNeg - k < D → k ≤ w.toNatClampNeg → (aOk u) → ((dgL v w.toNatClampNeg (dg0 md v)) = dgL v (w.toNatClampNeg - k) u) → ((k = 0 ∧ u = dg0 md v) ∨ (0 < k ∧ dgQ (dg0 md v))) → ∀ (ls : Array Slot) (H : Heap) (locs : List Loc), hR g (putD g M q u) H → va_S (gA g) s.heap H locs → lv_has ls 4 [(3, .int (nI k)), (0, .ref q), (1, .int v), (2, .int w)] → W p l e (rmOf 2 0 0) s m [.ref q, .int v, .int w].toArray below meth c H locs 0 0 (vx_MQ below (KQ g (.inl (some (.int (bI (dgQ (dg0 md v)))), (putD g M q (dgT md v w))))) (KX g (.inl (some (.int (bI (dgQ (dg0 md v)))), (putD g M q (dgT md v w))))) [.ref q, .int v, .int w].toArray s 0 0 (gA g)) (F0 m 9 ls []) := by
    intro D
    induction D with
    | zero => intro k u hD; exact absurd hD (Nat.not_lt_zero _)
    | succ D ih_9 =>
      intro k u hD hk hA2 hq hz ls H locs hM hS hl
      have hW := MdAt.put (g := g) (M := M) (m := q) (md := u)
      refine lv_iload_n hx hb dX6_digits_9 rfl (lv_at hl 0 rfl) ?_
      refine lv_iload_n hx hb dX6_digits_10 rfl (lv_at hl 3 rfl) ?_
      refine lv_icmp_ge (tgt := 85) hx hb dX6_digits_11 (by decide) (fun c_11 => ?_) (fun c_11 => ?_)
      · skip
        have c_11 := (k_le (by have := k_clamp_lt w; omega)).mp c_11
        have hE : dgT md v w = u := hq.trans (by rw [show w.toNatClampNeg - k = 0 by omega]; rfl)
        have hy : k = 0 → ¬ dgQ (dg0 md v) := fun e => absurd e (by have := w12 hw; omega)
        refine lv_iload_n hx hb dX6_digits_85 rfl (lv_at hl 0 rfl) ?_
        refine lv_if_le (tgt := 93) hx hb dX6_digits_86 (by decide) (fun c_86 => ?_) (fun c_86 => ?_)
        · skip
          have c_k : k = 0 := (k_le0 (by have := k_clamp_lt w; omega)).mp c_86
          refine lv_iconst (v := 0) hx hb dX6_digits_93 (by decide) ?_
          exact k_zret hc hr dX6_digits_94 hM hS (by first | rfl | exact bI_n) (Nat.le_of_ble_eq_true rfl) (Nat.le_of_ble_eq_true rfl) (by exact dg_finF hE (hy c_k))
        · skip
          have c_k : ¬ k = 0 := fun h => c_86 ((k_le0 (by have := k_clamp_lt w; omega)).mpr h)
          refine lv_iconst (v := 1) hx hb dX6_digits_89 (by decide) ?_
          refine lv_goto (tgt := 94) hx hb dX6_digits_90 (by decide) ?_
          exact k_zret hc hr dX6_digits_94 hM hS (by first | rfl | exact bI_n) (Nat.le_of_ble_eq_true rfl) (Nat.le_of_ble_eq_true rfl) (by exact dg_finT hE (hz.elim (fun z => absurd z.1 c_k) (fun z => z.2)))
      · skip
        have c_11 : ¬ w.toNatClampNeg ≤ k := fun h => c_11 ((k_le (by have := k_clamp_lt w; omega)).mpr h)
        refine lv_aload_n hx hb dX6_digits_14 rfl (lv_at hl 1 rfl) ?_
        refine gt_X6_166 hc dX6_digits_15 hM hW.o (v := .int (u 7 10)) rfl ?_
        refine lv_aload_n hx hb dX6_digits_18 rfl (lv_at hl 1 rfl) ?_
        refine gt_X6_163 hc dX6_digits_19 hM hW.o (v := .int (u 7 9)) rfl ?_
        refine lv_icmp_ge (tgt := 85) hx hb dX6_digits_22 (by decide) (fun c_22 => ?_) (fun c_22 => ?_)
        · skip
          skip
          have hE : dgT md v w = u := hq.trans (by rw [show w.toNatClampNeg - k = (w.toNatClampNeg - (k + 1)) + 1 by omega]; exact if_neg (fun h => h.1 c_22))
          have hy : k = 0 → ¬ dgQ (dg0 md v) := fun e => hz.elim (fun z => by rw [← z.2]; exact fun h => h.1 c_22) (fun z => absurd e (by omega))
          refine lv_iload_n hx hb dX6_digits_85 rfl (lv_at hl 0 rfl) ?_
          refine lv_if_le (tgt := 93) hx hb dX6_digits_86 (by decide) (fun c_86 => ?_) (fun c_86 => ?_)
          · skip
            have c_k : k = 0 := (k_le0 (by have := k_clamp_lt w; omega)).mp c_86
            refine lv_iconst (v := 0) hx hb dX6_digits_93 (by decide) ?_
            exact k_zret hc hr dX6_digits_94 hM hS (by first | rfl | exact bI_n) (Nat.le_of_ble_eq_true rfl) (Nat.le_of_ble_eq_true rfl) (by exact dg_finF hE (hy c_k))
          · skip
            have c_k : ¬ k = 0 := fun h => c_86 ((k_le0 (by have := k_clamp_lt w; omega)).mpr h)
            refine lv_iconst (v := 1) hx hb dX6_digits_89 (by decide) ?_
            refine lv_goto (tgt := 94) hx hb dX6_digits_90 (by decide) ?_
            exact k_zret hc hr dX6_digits_94 hM hS (by first | rfl | exact bI_n) (Nat.le_of_ble_eq_true rfl) (Nat.le_of_ble_eq_true rfl) (by exact dg_finT hE (hz.elim (fun z => absurd z.1 c_k) (fun z => z.2)))
        · skip
          refine lv_aload_n hx hb dX6_digits_25 rfl (lv_at hl 1 rfl) ?_
          refine gt_X6_25 hc dX6_digits_26 hM hW.o rfl ?_
          refine lv_aload_n hx hb dX6_digits_29 rfl (lv_at hl 1 rfl) ?_
          refine gt_X6_166 hc dX6_digits_30 hM hW.o (v := .int (u 7 10)) rfl ?_
          refine k_cald hc hM hW.tx (aIn2 hA2 c_22) dX6_digits_33 ?_
          refine lv_bipush (v := 48) hx hb dX6_digits_34 (by decide) ?_
          refine lv_bipush (v := 57) hx hb dX6_digits_36 (by decide) ?_
          refine k_S1 hc [.int ((u 5) (u 7 10).toNatClampNeg), .int 48, .int 57] cw_X6_64 dX6_digits_38 (c_X6_in l hlf g _ ((u 5) (u 7 10).toNatClampNeg) 48 57) hM hS hl.1 rfl rfl ⟨Nat.le_of_ble_eq_true rfl, Nat.le_of_ble_eq_true rfl⟩ ⟨Nat.le_of_ble_eq_true rfl, Nat.le_of_ble_eq_true rfl⟩ (Nat.le_of_ble_eq_true rfl) (fun H locs hM hS => ?_)
          refine lv_if_eq (tgt := 85) hx hb dX6_digits_41 (by decide) (fun c_41 => ?_) (fun c_41 => ?_)
          · skip
            have c_41 := bI_eq.mp c_41
            skip
            have hE : dgT md v w = u := hq.trans (by rw [show w.toNatClampNeg - k = (w.toNatClampNeg - (k + 1)) + 1 by omega]; exact if_neg (fun h => c_41 h.2))
            have hy : k = 0 → ¬ dgQ (dg0 md v) := fun e => hz.elim (fun z => by rw [← z.2]; exact fun h => c_41 h.2) (fun z => absurd e (by omega))
            refine lv_iload_n hx hb dX6_digits_85 rfl (lv_at hl 0 rfl) ?_
            refine lv_if_le (tgt := 93) hx hb dX6_digits_86 (by decide) (fun c_86 => ?_) (fun c_86 => ?_)
            · skip
              have c_k : k = 0 := (k_le0 (by have := k_clamp_lt w; omega)).mp c_86
              refine lv_iconst (v := 0) hx hb dX6_digits_93 (by decide) ?_
              exact k_zret hc hr dX6_digits_94 hM hS (by first | rfl | exact bI_n) (Nat.le_of_ble_eq_true rfl) (Nat.le_of_ble_eq_true rfl) (by exact dg_finF hE (hy c_k))
            · skip
              have c_k : ¬ k = 0 := fun h => c_86 ((k_le0 (by have := k_clamp_lt w; omega)).mpr h)
              refine lv_iconst (v := 1) hx hb dX6_digits_89 (by decide) ?_
              refine lv_goto (tgt := 94) hx hb dX6_digits_90 (by decide) ?_
              exact k_zret hc hr dX6_digits_94 hM hS (by first | rfl | exact bI_n) (Nat.le_of_ble_eq_true rfl) (Nat.le_of_ble_eq_true rfl) (by exact dg_finT hE (hz.elim (fun z => absurd z.1 c_k) (fun z => z.2)))
          · skip
            have c_41 := bI_ne.mp c_41
            refine lv_aload_n hx hb dX6_digits_44 rfl (lv_at hl 1 rfl) ?_
            refine gt_X6_29 hc dX6_digits_45 hM hW.o rfl ?_
            refine lv_iload_n hx hb dX6_digits_48 rfl (lv_at hl 2 rfl) ?_
            refine lv_bipush (v := 10) hx hb dX6_digits_49 (by decide) ?_
            refine lv_aload_n hx hb dX6_digits_51 rfl (lv_at hl 1 rfl) ?_
            refine gt_X6_29 hc dX6_digits_52 hM hW.o rfl ?_
            refine lv_iload_n hx hb dX6_digits_55 rfl (lv_at hl 2 rfl) ?_
            refine k_iald hc hM (hW.ar 6 (by decide) (by decide) rfl rfl) (in3 hv3) dX6_digits_56 ?_
            refine lv_imul hx hb dX6_digits_57 ?_
            refine lv_aload_n hx hb dX6_digits_58 rfl (lv_at hl 1 rfl) ?_
            refine gt_X6_25 hc dX6_digits_59 hM hW.o rfl ?_
            refine lv_aload_n hx hb dX6_digits_62 rfl (lv_at hl 1 rfl) ?_
            refine lv_dup hx hb dX6_digits_63 rfl ?_
            refine gt_X6_166 hc dX6_digits_64 hM hW.o (v := .int (u 7 10)) rfl ?_
            refine lv_dup_x1 hx hb dX6_digits_67 rfl rfl ?_
            refine lv_iconst (v := 1) hx hb dX6_digits_68 (by decide) ?_
            refine lv_iadd hx hb dX6_digits_69 ?_
            refine pt_X6_166 hc dX6_digits_70 hM hS hW.o rfl rfl (Nat.le_of_ble_eq_true rfl) (fun H locs hM hS => ?_)
            have hM := hR.eq hM (putD_sc hW 10 (v := ((u 7 10) + 1)) md_s10)
            have hM := hR.eq hM putD_putD
            have hW := MdAt.put (g := g) (M := M) (m := q) (md := (up2 u 7 10 ((u 7 10) + 1)))
            refine k_cald hc hM (show (putD g M q (up2 u 7 10 ((u 7 10) + 1))) (q + 6) = some (.inl (gC g, 60, .inl (u 5))) from hW.tx) (aIn2 hA2 c_22) dX6_digits_73 ?_
            refine lv_iadd hx hb dX6_digits_74 ?_
            refine lv_bipush (v := 48) hx hb dX6_digits_75 (by decide) ?_
            refine lv_isub hx hb dX6_digits_77 ?_
            refine k_iast hc hM hS (show (putD g M q (up2 u 7 10 ((u 7 10) + 1))) (q + 7) = some (.inl (gI g, 3, .inl (u 6))) from (hW.ar 6 (by decide) (by decide) rfl rfl)) (in3 hv3) dX6_digits_78 (fun H locs hM hS => ?_)
            have hM := hR.eq hM (putD_ar hW 6 (by decide) (by decide) rfl rfl)
            have hM := hR.eq hM putD_putD
            have hW := MdAt.put (g := g) (M := M) (m := q) (md := (up1 (up2 u 7 10 ((u 7 10) + 1)) 6 (upd (u 6) v.toNatClampNeg (((10 * ((u 6) v.toNatClampNeg)) + ((u 5) (u 7 10).toNatClampNeg)) - 48))))
            refine lv_iinc (v := (nI (k + 1))) (lv' := [(3, .int (nI (k + 1))), (0, .ref q), (1, .int v), (2, .int w)]) hx hb dX6_digits_79 hl (k := 0) rfl (k_inc1 _) (by decide) rfl (fun ls hl => ?_)
            refine lv_goto (tgt := 9) hx hb dX6_digits_82 (by decide) ?_
            exact ih_9 (k + 1) (dg1 u v) (by omega) (by omega) (dg1_ok hA2 ⟨c_22, c_41⟩) (hq.trans (by rw [show w.toNatClampNeg - k = (w.toNatClampNeg - (k + 1)) + 1 by omega]; exact if_pos ⟨c_22, c_41⟩)) (Or.inr ⟨by omega, hz.elim (fun e => by rw [← e.2]; exact ⟨c_22, c_41⟩) (fun e => e.2)⟩) ls _ _ hM hS (lv_sub hl [0, 1, 2, 3] rfl)
  have z_3 : 0 = (nI 0) := rfl
  have hl := lv_chg (lv_sub hl [0, 1, 2, 3] rfl) z_3
  exact lp_9 (w.toNatClampNeg + 1) 0 (dg0 md v) (by omega) (by omega) (aOk_e hA rfl rfl) rfl (Or.inl ⟨rfl, rfl⟩) ls _ _ hM hS (lv_sub hl [0, 1, 2, 3] rfl)
