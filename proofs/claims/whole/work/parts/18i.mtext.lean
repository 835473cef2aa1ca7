/-! the reference reads a text -/
theorem in3 {v : Int32} (h : ¬ v < 0 ∧ v < 3) : vp_in v 3 := by
  obtain ⟨j, hj, rfl⟩ := ok_nI (n := 3) rfl h
  exact vp_in_nI hj (by decide)
theorem w12 {w : Int32} (h : w = 1 ∨ w = 2) : 1 ≤ w.toNatClampNeg := by rcases h with rfl | rfl <;> decide
theorem k_le0 {k : Nat} (hk : k < 2 ^ 31) : nI k ≤ 0 ↔ k = 0 := by
  rw [Int32.le_iff_toInt_le, nI_toInt hk]
  show (k : Int) ≤ 0 ↔ _
  omega
theorem dg_finT {g : GC} {M : HM} {q : Nat} {D u : FL} {P : Prop} [Decidable P] (h : D = u) (hp : P) : (.inl (some (.int (bI P)), putD g M q D) : Rs) = .inl (some (.int 1), putD g M q u) := by rw [h, bI_t hp]
theorem dg_finF {g : GC} {M : HM} {q : Nat} {D u : FL} {P : Prop} [Decidable P] (h : D = u) (hp : ¬ P) : (.inl (some (.int (bI P)), putD g M q D) : Rs) = .inl (some (.int 0), putD g M q u) := by rw [h, bI_f hp]

set_option maxHeartbeats 4000000 in
set_option maxRecDepth 100000 in
theorem c_X6_isNext (l : Launch) (hlf : l.stackTraces = false) (g : GC) (M : HM) (q : Nat) (md : FL) (v : Int32) (hW : MdAt g M q md) (hA : aOk md) : KM g l yX6_isNext cX6_isNext 2 (some .boolean) 1 0 0 [.ref q, .int v] M (.inl (some (.int (bI (nxP md v))), (putD g M q (nxS md v)))) := by
  refine k_meth hlf (by decide) (Nat.le_of_ble_eq_true rfl) fun p e s m below meth c ls hc hr hnx hM hS hl => ?_
  have hc : Cx g p l s m [.ref q, .int v].toArray meth c cX6_isNext 2 RX6 := hc
  have hx := hc.1
  have hb := hc.2.1
  have hl : lv_has ls 2 [(0, .ref q), (1, .int v)] := hl
  refine lv_aload_n hx hb dX6_isNext_0 rfl (lv_at hl 0 rfl) ?_
  refine gt_X6_166 hc dX6_isNext_1 hM hW.o (v := .int (md 7 10)) rfl ?_
  refine lv_aload_n hx hb dX6_isNext_4 rfl (lv_at hl 0 rfl) ?_
  refine gt_X6_163 hc dX6_isNext_5 hM hW.o (v := .int (md 7 9)) rfl ?_
  refine lv_icmp_eq (tgt := 24) hx hb dX6_isNext_8 (by decide) (fun c_8 => ?_) (fun c_8 => ?_)
  · skip
    refine lv_iconst (v := 0) hx hb dX6_isNext_24 (by decide) ?_
    exact k_zret hc hr dX6_isNext_25 hM hS (by first | rfl | exact bI_n) (Nat.le_of_ble_eq_true rfl) (Nat.le_of_ble_eq_true rfl) (by first | (simp only [nxS, nxP, bI, eq_true c_8, eq_self, bM_l, bM_r, rsM_l, rsM_r, seV_l, seV_r, snE_l, snE_r, up1_at, up1_up1, up2_up2, not_false_eq_true, not_true_eq_false, and_true, true_and, and_false, false_and, and_self, ↓reduceIte, or_true, true_or, or_self, or_false, false_or]; done) | (simp only [nxS, nxP, bI, eq_true c_8, eq_self, bM_l, bM_r, rsM_l, rsM_r, seV_l, seV_r, snE_l, snE_r, up1_at, up1_up1, up2_up2, not_false_eq_true, not_true_eq_false, and_true, true_and, and_false, false_and, and_self, ↓reduceIte, or_true, true_or, or_self, or_false, false_or]; rw [putD_same hW]))
  · skip
    refine lv_aload_n hx hb dX6_isNext_11 rfl (lv_at hl 0 rfl) ?_
    refine gt_X6_25 hc dX6_isNext_12 hM hW.o rfl ?_
    refine lv_aload_n hx hb dX6_isNext_15 rfl (lv_at hl 0 rfl) ?_
    refine gt_X6_166 hc dX6_isNext_16 hM hW.o (v := .int (md 7 10)) rfl ?_
    refine k_cald hc hM hW.tx (aIn hA c_8) dX6_isNext_19 ?_
    refine lv_iload_n hx hb dX6_isNext_20 rfl (lv_at hl 1 rfl) ?_
    refine lv_icmp_eq (tgt := 26) hx hb dX6_isNext_21 (by decide) (fun c_21 => ?_) (fun c_21 => ?_)
    · skip
      refine lv_aload_n hx hb dX6_isNext_26 rfl (lv_at hl 0 rfl) ?_
      refine lv_dup hx hb dX6_isNext_27 rfl ?_
      refine gt_X6_166 hc dX6_isNext_28 hM hW.o (v := .int (md 7 10)) rfl ?_
      refine lv_iconst (v := 1) hx hb dX6_isNext_31 (by decide) ?_
      refine lv_iadd hx hb dX6_isNext_32 ?_
      refine pt_X6_166 hc dX6_isNext_33 hM hS hW.o rfl rfl (Nat.le_of_ble_eq_true rfl) (fun H locs hM hS => ?_)
      have hM := hR.eq hM (putD_sc hW 10 (v := ((md 7 10) + 1)) md_s10)
      have hW := MdAt.put (g := g) (M := M) (m := q) (md := (up2 md 7 10 ((md 7 10) + 1)))
      refine lv_iconst (v := 1) hx hb dX6_isNext_36 (by decide) ?_
      exact k_zret hc hr dX6_isNext_37 hM hS (by first | rfl | exact bI_n) (Nat.le_of_ble_eq_true rfl) (Nat.le_of_ble_eq_true rfl) (by first | (simp only [nxS, nxP, bI, eq_false c_8, eq_true c_21, eq_self, bM_l, bM_r, rsM_l, rsM_r, seV_l, seV_r, snE_l, snE_r, up1_at, up1_up1, up2_up2, not_false_eq_true, not_true_eq_false, and_true, true_and, and_false, false_and, and_self, ↓reduceIte, or_true, true_or, or_self, or_false, false_or]; done) | (simp only [nxS, nxP, bI, eq_false c_8, eq_true c_21, eq_self, bM_l, bM_r, rsM_l, rsM_r, seV_l, seV_r, snE_l, snE_r, up1_at, up1_up1, up2_up2, not_false_eq_true, not_true_eq_false, and_true, true_and, and_false, false_and, and_self, ↓reduceIte, or_true, true_or, or_self, or_false, false_or]; rw [putD_same hW]))
    · skip
      refine lv_iconst (v := 0) hx hb dX6_isNext_24 (by decide) ?_
      exact k_zret hc hr dX6_isNext_25 hM hS (by first | rfl | exact bI_n) (Nat.le_of_ble_eq_true rfl) (Nat.le_of_ble_eq_true rfl) (by first | (simp only [nxS, nxP, bI, eq_false c_8, eq_false c_21, eq_self, bM_l, bM_r, rsM_l, rsM_r, seV_l, seV_r, snE_l, snE_r, up1_at, up1_up1, up2_up2, not_false_eq_true, not_true_eq_false, and_true, true_and, and_false, false_and, and_self, ↓reduceIte, or_true, true_or, or_self, or_false, false_or]; done) | (simp only [nxS, nxP, bI, eq_false c_8, eq_false c_21, eq_self, bM_l, bM_r, rsM_l, rsM_r, seV_l, seV_r, snE_l, snE_r, up1_at, up1_up1, up2_up2, not_false_eq_true, not_true_eq_false, and_true, true_and, and_false, false_and, and_self, ↓reduceIte, or_true, true_or, or_self, or_false, false_or]; rw [putD_same hW]))
set_option maxHeartbeats 4000000 in
set_option maxRecDepth 100000 in
theorem c_X6_digits (l : Launch) (hlf : l.stackTraces = false) (g : GC) (M : HM) (q : Nat) (md : FL) (v : Int32) (w : Int32) (hW : MdAt g M q md) (hA : aOk md) (hv3 : ¬ v < 0 ∧ v < 3) (hw : w = 1 ∨ w = 2) : KM g l yX6_digits cX6_digits 4 (some .boolean) 2 0 0 [.ref q, .int v, .int w] M (.inl (some (.int (bI (dgQ (dg0 md v)))), (putD g M q (dgT md v w)))) := by
  refine k_meth hlf (by decide) (Nat.le_of_ble_eq_true rfl) fun p e s m below meth c ls hc hr hnx hM hS hl => ?_
  have hc : Cx g p l s m [.ref q, .int v, .int w].toArray meth c cX6_digits 4 RX6 := hc
  have hx := hc.1
  have hb := hc.2.1
  have hl : lv_has ls 4 [(0, .ref q), (1, .int v), (2, .int w)] := hl
  refine lv_iconst (v := 0) hx hb dX6_digits_0 (by decide) ?_
  refine lv_istore_n (lv' := [(3, .int 0), (0, .ref q), (1, .int v), (2, .int w)]) hx hb dX6_digits_1 rfl hl (by decide) rfl (fun ls hl => ?_)
  refine lv_aload_n hx hb dX6_digits_2 rfl (lv_at hl 1 rfl) ?_
  refine gt_X6_29 hc dX6_digits_3 hM hW.o rfl ?_
  refine lv_iload_n hx hb dX6_digits_6 rfl (lv_at hl 2 rfl) ?_
  refine lv_iconst (v := 0) hx hb dX6_digits_7 (by decide) ?_
  refine k_iast hc hM hS (hW.ar 6 (by decide) (by decide) rfl rfl) (in3 hv3) dX6_digits_8 (fun H locs hM hS => ?_)
  have hM := hR.eq hM (putD_ar hW 6 (by decide) (by decide) rfl rfl)
  have hW := MdAt.put (g := g) (M := M) (m := q) (md := (up1 md 6 (upd (md 6) v.toNatClampNeg 0)))
  have hM : hR g (putD g M q (dg0 md v)) H := hM
  have hW := MdAt.put (g := g) (M := M) (m := q) (md := (dg0 md v))
  have lp_9 : ∀ (D k : Nat) (u : FL), w.toNatClampNeg - k < D → k ≤ w.toNatClampNeg → (aOk u) → ((dgL v w.toNatClampNeg (dg0 md v)) = dgL v (w.toNatClampNeg - k) u) → ((k = 0 ∧ u = dg0 md v) ∨ (0 < k ∧ dgQ (dg0 md v))) → ∀ (ls : Array Slot) (H : Heap) (locs : List Loc), hR g (putD g M q u) H → va_S (gA g) s.heap H locs → lv_has ls 4 [(3, .int (nI k)), (0, .ref q), (1, .int v), (2, .int w)] → W p l e (rmOf 2 0 0) s m [.ref q, .int v, .int w].toArray below meth c H locs 0 0 (vx_MQ below (KQ g (.inl (some (.int (bI (dgQ (dg0 md v)))), (putD g M q (dgT md v w))))) (KX g (.inl (some (.int (bI (dgQ (dg0 md v)))), (putD g M q (dgT md v w))))) [.ref q, .int v, .int w].toArray s 0 0 (gA g)) (F0 m 9 ls []) := by
    intro D
    induction D with
    | zero => intro k u hD; exact absurd hD (Nat.not_lt_zero _)
    | succ D ih_9 =>
      intro k u hD hk hA2 hq hz ls H locs hM hS hl
      have hW := MdAt.put (g := g) (M := M) (m := q) (md := u)
      refine lv_iload_n hx hb dX6_digits_9 rfl (lv_at hl 0 rfl) ?_
      refine lv_iload_n hx hb dX6_digits_10 rfl (lv_at hl 3 rfl) ?_
      refine lv_icmp_ge (tgt := 85) hx hb dX6_digits_11 (by decide) (fun c_11 => ?_) (fun c_11 => ?_)
      · skip
        have c_11 := (k_le (by have := k_clamp_lt w; omega)).mp c_11
        have hE : dgT md v w = u := hq.trans (by rw [show w.toNatClampNeg - k = 0 by omega]; rfl)
        have hy : k = 0 → ¬ dgQ (dg0 md v) := fun e => absurd e (by have := w12 hw; omega)
        refine lv_iload_n hx hb dX6_digits_85 rfl (lv_at hl 0 rfl) ?_
        refine lv_if_le (tgt := 93) hx hb dX6_digits_86 (by decide) (fun c_86 => ?_) (fun c_86 => ?_)
        · skip
          have c_k : k = 0 := (k_le0 (by have := k_clamp_lt w; omega)).mp c_86
          refine lv_iconst (v := 0) hx hb dX6_digits_93 (by decide) ?_
          exact k_zret hc hr dX6_digits_94 hM hS (by first | rfl | exact bI_n) (Nat.le_of_ble_eq_true rfl) (Nat.le_of_ble_eq_true rfl) (by exact dg_finF hE (hy c_k))
        · skip
          have c_k : ¬ k = 0 := fun h => c_86 ((k_le0 (by have := k_clamp_lt w; omega)).mpr h)
          refine lv_iconst (v := 1) hx hb dX6_digits_89 (by decide) ?_
          refine lv_goto (tgt := 94) hx hb dX6_digits_90 (by decide) ?_
          exact k_zret hc hr dX6_digits_94 hM hS (by first | rfl | exact bI_n) (Nat.le_of_ble_eq_true rfl) (Nat.le_of_ble_eq_true rfl) (by exact dg_finT hE (hz.elim (fun z => absurd z.1 c_k) (fun z => z.2)))
      · skip
        have c_11 : ¬ w.toNatClampNeg ≤ k := fun h => c_11 ((k_le (by have := k_clamp_lt w; omega)).mpr h)
        refine lv_aload_n hx hb dX6_digits_14 rfl (lv_at hl 1 rfl) ?_
        refine gt_X6_166 hc dX6_digits_15 hM hW.o (v := .int (u 7 10)) rfl ?_
        refine lv_aload_n hx hb dX6_digits_18 rfl (lv_at hl 1 rfl) ?_
        refine gt_X6_163 hc dX6_digits_19 hM hW.o (v := .int (u 7 9)) rfl ?_
        refine lv_icmp_ge (tgt := 85) hx hb dX6_digits_22 (by decide) (fun c_22 => ?_) (fun c_22 => ?_)
        · skip
          skip
          have hE : dgT md v w = u := hq.trans (by rw [show w.toNatClampNeg - k = (w.toNatClampNeg - (k + 1)) + 1 by omega]; exact if_neg (fun h => h.1 c_22))
          have hy : k = 0 → ¬ dgQ (dg0 md v) := fun e => hz.elim (fun z => by rw [← z.2]; exact fun h => h.1 c_22) (fun z => absurd e (by omega))
          refine lv_iload_n hx hb dX6_digits_85 rfl (lv_at hl 0 rfl) ?_
          refine lv_if_le (tgt := 93) hx hb dX6_digits_86 (by decide) (fun c_86 => ?_) (fun c_86 => ?_)
          · skip
            have c_k : k = 0 := (k_le0 (by have := k_clamp_lt w; omega)).mp c_86
            refine lv_iconst (v := 0) hx hb dX6_digits_93 (by decide) ?_
            exact k_zret hc hr dX6_digits_94 hM hS (by first | rfl | exact bI_n) (Nat.le_of_ble_eq_true rfl) (Nat.le_of_ble_eq_true rfl) (by exact dg_finF hE (hy c_k))
          · skip
            have c_k : ¬ k = 0 := fun h => c_86 ((k_le0 (by have := k_clamp_lt w; omega)).mpr h)
            refine lv_iconst (v := 1) hx hb dX6_digits_89 (by decide) ?_
            refine lv_goto (tgt := 94) hx hb dX6_digits_90 (by decide) ?_
            exact k_zret hc hr dX6_digits_94 hM hS (by first | rfl | exact bI_n) (Nat.le_of_ble_eq_true rfl) (Nat.le_of_ble_eq_true rfl) (by exact dg_finT hE (hz.elim (fun z => absurd z.1 c_k) (fun z => z.2)))
        · skip
          refine lv_aload_n hx hb dX6_digits_25 rfl (lv_at hl 1 rfl) ?_
          refine gt_X6_25 hc dX6_digits_26 hM hW.o rfl ?_
          refine lv_aload_n hx hb dX6_digits_29 rfl (lv_at hl 1 rfl) ?_
          refine gt_X6_166 hc dX6_digits_30 hM hW.o (v := .int (u 7 10)) rfl ?_
          refine k_cald hc hM hW.tx (aIn2 hA2 c_22) dX6_digits_33 ?_
          refine lv_bipush (v := 48) hx hb dX6_digits_34 (by decide) ?_
          refine lv_bipush (v := 57) hx hb dX6_digits_36 (by decide) ?_
          refine k_S1 hc [.int ((u 5) (u 7 10).toNatClampNeg), .int 48, .int 57] cw_X6_64 dX6_digits_38 (c_X6_in l hlf g _ ((u 5) (u 7 10).toNatClampNeg) 48 57) hM hS hl.1 rfl rfl ⟨Nat.le_of_ble_eq_true rfl, Nat.le_of_ble_eq_true rfl⟩ ⟨Nat.le_of_ble_eq_true rfl, Nat.le_of_ble_eq_true rfl⟩ (Nat.le_of_ble_eq_true rfl) (fun H locs hM hS => ?_)
          refine lv_if_eq (tgt := 85) hx hb dX6_digits_41 (by decide) (fun c_41 => ?_) (fun c_41 => ?_)
          · skip
            have c_41 := bI_eq.mp c_41
            skip
            have hE : dgT md v w = u := hq.trans (by rw [show w.toNatClampNeg - k = (w.toNatClampNeg - (k + 1)) + 1 by omega]; exact if_neg (fun h => c_41 h.2))
            have hy : k = 0 → ¬ dgQ (dg0 md v) := fun e => hz.elim (fun z => by rw [← z.2]; exact fun h => c_41 h.2) (fun z => absurd e (by omega))
            refine lv_iload_n hx hb dX6_digits_85 rfl (lv_at hl 0 rfl) ?_
            refine lv_if_le (tgt := 93) hx hb dX6_digits_86 (by decide) (fun c_86 => ?_) (fun c_86 => ?_)
            · skip
              have c_k : k = 0 := (k_le0 (by have := k_clamp_lt w; omega)).mp c_86
              refine lv_iconst (v := 0) hx hb dX6_digits_93 (by decide) ?_
              exact k_zret hc hr dX6_digits_94 hM hS (by first | rfl | exact bI_n) (Nat.le_of_ble_eq_true rfl) (Nat.le_of_ble_eq_true rfl) (by exact dg_finF hE (hy c_k))
            · skip
              have c_k : ¬ k = 0 := fun h => c_86 ((k_le0 (by have := k_clamp_lt w; omega)).mpr h)
              refine lv_iconst (v := 1) hx hb dX6_digits_89 (by decide) ?_
              refine lv_goto (tgt := 94) hx hb dX6_digits_90 (by decide) ?_
              exact k_zret hc hr dX6_digits_94 hM hS (by first | rfl | exact bI_n) (Nat.le_of_ble_eq_true rfl) (Nat.le_of_ble_eq_true rfl) (by exact dg_finT hE (hz.elim (fun z => absurd z.1 c_k) (fun z => z.2)))
          · skip
            have c_41 := bI_ne.mp c_41
            refine lv_aload_n hx hb dX6_digits_44 rfl (lv_at hl 1 rfl) ?_
            refine gt_X6_29 hc dX6_digits_45 hM hW.o rfl ?_
            refine lv_iload_n hx hb dX6_digits_48 rfl (lv_at hl 2 rfl) ?_
            refine lv_bipush (v := 10) hx hb dX6_digits_49 (by decide) ?_
            refine lv_aload_n hx hb dX6_digits_51 rfl (lv_at hl 1 rfl) ?_
            refine gt_X6_29 hc dX6_digits_52 hM hW.o rfl ?_
            refine lv_iload_n hx hb dX6_digits_55 rfl (lv_at hl 2 rfl) ?_
            refine k_iald hc hM (hW.ar 6 (by decide) (by decide) rfl rfl) (in3 hv3) dX6_digits_56 ?_
            refine lv_imul hx hb dX6_digits_57 ?_
            refine lv_aload_n hx hb dX6_digits_58 rfl (lv_at hl 1 rfl) ?_
            refine gt_X6_25 hc dX6_digits_59 hM hW.o rfl ?_
            refine lv_aload_n hx hb dX6_digits_62 rfl (lv_at hl 1 rfl) ?_
            refine lv_dup hx hb dX6_digits_63 rfl ?_
            refine gt_X6_166 hc dX6_digits_64 hM hW.o (v := .int (u 7 10)) rfl ?_
            refine lv_dup_x1 hx hb dX6_digits_67 rfl rfl ?_
            refine lv_iconst (v := 1) hx hb dX6_digits_68 (by decide) ?_
            refine lv_iadd hx hb dX6_digits_69 ?_
            refine pt_X6_166 hc dX6_digits_70 hM hS hW.o rfl rfl (Nat.le_of_ble_eq_true rfl) (fun H locs hM hS => ?_)
            have hM := hR.eq hM (putD_sc hW 10 (v := ((u 7 10) + 1)) md_s10)
            have hM := hR.eq hM putD_putD
            have hW := MdAt.put (g := g) (M := M) (m := q) (md := (up2 u 7 10 ((u 7 10) + 1)))
            refine k_cald hc hM (show (putD g M q (up2 u 7 10 ((u 7 10) + 1))) (q + 6) = some (.inl (gC g, 60, .inl (u 5))) from hW.tx) (aIn2 hA2 c_22) dX6_digits_73 ?_
            refine lv_iadd hx hb dX6_digits_74 ?_
            refine lv_bipush (v := 48) hx hb dX6_digits_75 (by decide) ?_
            refine lv_isub hx hb dX6_digits_77 ?_
            refine k_iast hc hM hS (show (putD g M q (up2 u 7 10 ((u 7 10) + 1))) (q + 7) = some (.inl (gI g, 3, .inl (u 6))) from (hW.ar 6 (by decide) (by decide) rfl rfl)) (in3 hv3) dX6_digits_78 (fun H locs hM hS => ?_)
            have hM := hR.eq hM (putD_ar hW 6 (by decide) (by decide) rfl rfl)
            have hM := hR.eq hM putD_putD
            have hW := MdAt.put (g := g) (M := M) (m := q) (md := (up1 (up2 u 7 10 ((u 7 10) + 1)) 6 (upd (u 6) v.toNatClampNeg (((10 * ((u 6) v.toNatClampNeg)) + ((u 5) (u 7 10).toNatClampNeg)) - 48))))
            refine lv_iinc (v := (nI (k + 1))) (lv' := [(3, .int (nI (k + 1))), (0, .ref q), (1, .int v), (2, .int w)]) hx hb dX6_digits_79 hl (k := 0) rfl (k_inc1 _) (by decide) rfl (fun ls hl => ?_)
            refine lv_goto (tgt := 9) hx hb dX6_digits_82 (by decide) ?_
            exact ih_9 (k + 1) (dg1 u v) (by omega) (by omega) (dg1_ok hA2 ⟨c_22, c_41⟩) (hq.trans (by rw [show w.toNatClampNeg - k = (w.toNatClampNeg - (k + 1)) + 1 by omega]; exact if_pos ⟨c_22, c_41⟩)) (Or.inr ⟨by omega, hz.elim (fun e => by rw [← e.2]; exact ⟨c_22, c_41⟩) (fun e => e.2)⟩) ls _ _ hM hS (lv_sub hl [0, 1, 2, 3] rfl)
  have z_3 : 0 = (nI 0) := rfl
  have hl := lv_chg (lv_sub hl [0, 1, 2, 3] rfl) z_3
  exact lp_9 (w.toNatClampNeg + 1) 0 (dg0 md v) (by omega) (by omega) (aOk_e hA rfl rfl) rfl (Or.inl ⟨rfl, rfl⟩) ls _ _ hM hS (lv_sub hl [0, 1, 2, 3] rfl)
set_option maxHeartbeats 4000000 in
set_option maxRecDepth 100000 in
theorem c_X6_isCommand (l : Launch) (hlf : l.stackTraces = false) (g : GC) (M : HM) (q : Nat) (md : FL) (hW : MdAt g M q md) (hA : aOk md) (hsg : ∀ k, chOk (md 5 k)) : KM g l yX6_isCommand cX6_isCommand 1 (some .boolean) 3 0 0 [.ref q] M (.inl (some (.int (bI ((icR md).1 = true))), (putD g M q ((icR md).2)))) := by
  refine k_meth hlf (by decide) (Nat.le_of_ble_eq_true rfl) fun p e s m below meth c ls hc hr hnx hM hS hl => ?_
  have hc : Cx g p l s m [.ref q].toArray meth c cX6_isCommand 1 RX6 := hc
  have hx := hc.1
  have hb := hc.2.1
  have hl : lv_has ls 1 [(0, .ref q)] := hl
  refine lv_aload_n hx hb dX6_isCommand_0 rfl (lv_at hl 0 rfl) ?_
  refine gt_X6_166 hc dX6_isCommand_1 hM hW.o (v := .int (md 7 10)) rfl ?_
  refine lv_aload_n hx hb dX6_isCommand_4 rfl (lv_at hl 0 rfl) ?_
  refine gt_X6_163 hc dX6_isCommand_5 hM hW.o (v := .int (md 7 9)) rfl ?_
  refine lv_icmp_ne (tgt := 13) hx hb dX6_isCommand_8 (by decide) (fun c_8 => ?_) (fun c_8 => ?_)
  · skip
    refine lv_aload_n hx hb dX6_isCommand_13 rfl (lv_at hl 0 rfl) ?_
    refine lv_aload_n hx hb dX6_isCommand_14 rfl (lv_at hl 0 rfl) ?_
    refine gt_X6_25 hc dX6_isCommand_15 hM hW.o rfl ?_
    refine lv_aload_n hx hb dX6_isCommand_18 rfl (lv_at hl 0 rfl) ?_
    refine gt_X6_166 hc dX6_isCommand_19 hM hW.o (v := .int (md 7 10)) rfl ?_
    refine k_cald hc hM hW.tx (aIn hA c_8) dX6_isCommand_22 ?_
    refine pt_X6_169 hc dX6_isCommand_23 hM hS hW.o (hsg _) (hsg _).fit (Nat.le_of_ble_eq_true rfl) (fun H locs hM hS => ?_)
    have hM := hR.eq hM (putD_sc hW 11 (v := ((md 5) (md 7 10).toNatClampNeg)) md_s11)
    have hW := MdAt.put (g := g) (M := M) (m := q) (md := (up2 md 7 11 ((md 5) (md 7 10).toNatClampNeg)))
    refine lv_aload_n hx hb dX6_isCommand_26 rfl (lv_at hl 0 rfl) ?_
    refine gt_X6_169 hc dX6_isCommand_27 hM hW.o (v := .int ((md 5) (md 7 10).toNatClampNeg)) rfl ?_
    by_cases c_30_98 : ((md 5) (md 7 10).toNatClampNeg) = 98
    · skip
      have e_30 : ((md 5) (md 7 10).toNatClampNeg).toInt = 98 := by rw [c_30_98]; rfl
      refine lv_tableIn (tgt := 236) hx hb dX6_isCommand_30 (by rw [e_30]; decide) (by rw [e_30]; decide) (by rw [e_30]; rfl) (by decide) ?_
      refine lv_aload_n hx hb dX6_isCommand_236 rfl (lv_at hl 0 rfl) ?_
      refine lv_dup hx hb dX6_isCommand_237 rfl ?_
      refine gt_X6_166 hc dX6_isCommand_238 hM hW.o (v := .int (md 7 10)) rfl ?_
      refine lv_iconst (v := 1) hx hb dX6_isCommand_241 (by decide) ?_
      refine lv_iadd hx hb dX6_isCommand_242 ?_
      refine pt_X6_166 hc dX6_isCommand_243 hM hS hW.o rfl rfl (Nat.le_of_ble_eq_true rfl) (fun H locs hM hS => ?_)
      have hM := hR.eq hM (putD_sc hW 10 (v := ((md 7 10) + 1)) md_s10)
      have hM := hR.eq hM putD_putD
      have hW := MdAt.put (g := g) (M := M) (m := q) (md := (up2 (up2 md 7 11 ((md 5) (md 7 10).toNatClampNeg)) 7 10 ((md 7 10) + 1)))
      have hM : hR g (putD g M q (ic1 md)) H := hM
      have hW := MdAt.put (g := g) (M := M) (m := q) (md := (ic1 md))
      have hA1 : aOk (ic1 md) := aOk_s hA c_8 rfl rfl
      refine lv_aload_n hx hb dX6_isCommand_246 rfl (lv_at hl 0 rfl) ?_
      refine lv_iconst (v := 0) hx hb dX6_isCommand_247 (by decide) ?_
      refine lv_iconst (v := 2) hx hb dX6_isCommand_248 (by decide) ?_
      refine k_V1 (v := .int (bI (dgQ (dg0 (ic1 md) 0)))) hc [.int 0, .int 2] cw_X6_173 rfl dX6_isCommand_249 (c_X6_digits l hlf g _ q (ic1 md) 0 2 hW hA1 (by first | assumption | decide) (by first | assumption | decide)) hW.o hM hS hl.1 rfl rfl ⟨Nat.le_of_ble_eq_true rfl, Nat.le_of_ble_eq_true rfl⟩ ⟨Nat.le_of_ble_eq_true rfl, Nat.le_of_ble_eq_true rfl⟩ (Nat.le_of_ble_eq_true rfl) (fun H locs hM hS => ?_)
      have hM := hR.eq hM putD_putD
      have hW := MdAt.put (g := g) (M := M) (m := q) (md := (dgT (ic1 md) 0 2))
      exact k_zret hc hr dX6_isCommand_252 hM hS bI_n (Nat.le_of_ble_eq_true rfl) (Nat.le_of_ble_eq_true rfl) (by by_cases hz : (dgQ (dg0 (ic1 md) 0)); (rw [bI_t hz]; simp only [icR, mpL, lfS, lfE, lfB, lfT, bI, eq_false c_8, eq_true c_30_98, eq_true hz, eq_self, bM_l, bM_r, rsM_l, rsM_r, seV_l, seV_r, snE_l, snE_r, up1_at, up1_up1, up2_up2, not_false_eq_true, not_true_eq_false, and_true, true_and, and_false, false_and, and_self, ↓reduceIte, or_true, true_or, or_self, or_false, false_or, Bool.false_eq_true]); (rw [bI_f hz]; simp only [icR, mpL, lfS, lfE, lfB, lfT, bI, eq_false c_8, eq_true c_30_98, eq_false hz, eq_self, bM_l, bM_r, rsM_l, rsM_r, seV_l, seV_r, snE_l, snE_r, up1_at, up1_up1, up2_up2, not_false_eq_true, not_true_eq_false, and_true, true_and, and_false, false_and, and_self, ↓reduceIte, or_true, true_or, or_self, or_false, false_or, Bool.false_eq_true]))
    by_cases c_30_100 : ((md 5) (md 7 10).toNatClampNeg) = 100
    · skip
      have e_30 : ((md 5) (md 7 10).toNatClampNeg).toInt = 100 := by rw [c_30_100]; rfl
      refine lv_tableIn (tgt := 253) hx hb dX6_isCommand_30 (by rw [e_30]; decide) (by rw [e_30]; decide) (by rw [e_30]; rfl) (by decide) ?_
      refine lv_aload_n hx hb dX6_isCommand_253 rfl (lv_at hl 0 rfl) ?_
      refine lv_dup hx hb dX6_isCommand_254 rfl ?_
      refine gt_X6_166 hc dX6_isCommand_255 hM hW.o (v := .int (md 7 10)) rfl ?_
      refine lv_iconst (v := 1) hx hb dX6_isCommand_258 (by decide) ?_
      refine lv_iadd hx hb dX6_isCommand_259 ?_
      refine pt_X6_166 hc dX6_isCommand_260 hM hS hW.o rfl rfl (Nat.le_of_ble_eq_true rfl) (fun H locs hM hS => ?_)
      have hM := hR.eq hM (putD_sc hW 10 (v := ((md 7 10) + 1)) md_s10)
      have hM := hR.eq hM putD_putD
      have hW := MdAt.put (g := g) (M := M) (m := q) (md := (up2 (up2 md 7 11 ((md 5) (md 7 10).toNatClampNeg)) 7 10 ((md 7 10) + 1)))
      have hM : hR g (putD g M q (ic1 md)) H := hM
      have hW := MdAt.put (g := g) (M := M) (m := q) (md := (ic1 md))
      have hA1 : aOk (ic1 md) := aOk_s hA c_8 rfl rfl
      refine lv_aload_n hx hb dX6_isCommand_263 rfl (lv_at hl 0 rfl) ?_
      refine lv_iconst (v := 0) hx hb dX6_isCommand_264 (by decide) ?_
      refine lv_iconst (v := 1) hx hb dX6_isCommand_265 (by decide) ?_
      refine k_V1 (v := .int (bI (dgQ (dg0 (ic1 md) 0)))) hc [.int 0, .int 1] cw_X6_173 rfl dX6_isCommand_266 (c_X6_digits l hlf g _ q (ic1 md) 0 1 hW hA1 (by first | assumption | decide) (by first | assumption | decide)) hW.o hM hS hl.1 rfl rfl ⟨Nat.le_of_ble_eq_true rfl, Nat.le_of_ble_eq_true rfl⟩ ⟨Nat.le_of_ble_eq_true rfl, Nat.le_of_ble_eq_true rfl⟩ (Nat.le_of_ble_eq_true rfl) (fun H locs hM hS => ?_)
      have hM := hR.eq hM putD_putD
      have hW := MdAt.put (g := g) (M := M) (m := q) (md := (dgT (ic1 md) 0 1))
      exact k_zret hc hr dX6_isCommand_269 hM hS bI_n (Nat.le_of_ble_eq_true rfl) (Nat.le_of_ble_eq_true rfl) (by by_cases hz : (dgQ (dg0 (ic1 md) 0)); (rw [bI_t hz]; simp only [icR, mpL, lfS, lfE, lfB, lfT, bI, eq_false c_8, eq_false c_30_98, eq_true c_30_100, eq_true hz, eq_self, bM_l, bM_r, rsM_l, rsM_r, seV_l, seV_r, snE_l, snE_r, up1_at, up1_up1, up2_up2, not_false_eq_true, not_true_eq_false, and_true, true_and, and_false, false_and, and_self, ↓reduceIte, or_true, true_or, or_self, or_false, false_or, Bool.false_eq_true]); (rw [bI_f hz]; simp only [icR, mpL, lfS, lfE, lfB, lfT, bI, eq_false c_8, eq_false c_30_98, eq_true c_30_100, eq_false hz, eq_self, bM_l, bM_r, rsM_l, rsM_r, seV_l, seV_r, snE_l, snE_r, up1_at, up1_up1, up2_up2, not_false_eq_true, not_true_eq_false, and_true, true_and, and_false, false_and, and_self, ↓reduceIte, or_true, true_or, or_self, or_false, false_or, Bool.false_eq_true]))
    by_cases c_30_101 : ((md 5) (md 7 10).toNatClampNeg) = 101
    · skip
      have e_30 : ((md 5) (md 7 10).toNatClampNeg).toInt = 101 := by rw [c_30_101]; rfl
      refine lv_tableIn (tgt := 193) hx hb dX6_isCommand_30 (by rw [e_30]; decide) (by rw [e_30]; decide) (by rw [e_30]; rfl) (by decide) ?_
      refine lv_aload_n hx hb dX6_isCommand_193 rfl (lv_at hl 0 rfl) ?_
      refine lv_dup hx hb dX6_isCommand_194 rfl ?_
      refine gt_X6_166 hc dX6_isCommand_195 hM hW.o (v := .int (md 7 10)) rfl ?_
      refine lv_iconst (v := 1) hx hb dX6_isCommand_198 (by decide) ?_
      refine lv_iadd hx hb dX6_isCommand_199 ?_
      refine pt_X6_166 hc dX6_isCommand_200 hM hS hW.o rfl rfl (Nat.le_of_ble_eq_true rfl) (fun H locs hM hS => ?_)
      have hM := hR.eq hM (putD_sc hW 10 (v := ((md 7 10) + 1)) md_s10)
      have hM := hR.eq hM putD_putD
      have hW := MdAt.put (g := g) (M := M) (m := q) (md := (up2 (up2 md 7 11 ((md 5) (md 7 10).toNatClampNeg)) 7 10 ((md 7 10) + 1)))
      have hM : hR g (putD g M q (ic1 md)) H := hM
      have hW := MdAt.put (g := g) (M := M) (m := q) (md := (ic1 md))
      have hA1 : aOk (ic1 md) := aOk_s hA c_8 rfl rfl
      refine lv_aload_n hx hb dX6_isCommand_203 rfl (lv_at hl 0 rfl) ?_
      refine lv_iconst (v := 0) hx hb dX6_isCommand_204 (by decide) ?_
      refine lv_iconst (v := 1) hx hb dX6_isCommand_205 (by decide) ?_
      refine k_V1 (v := .int (bI (dgQ (dg0 (ic1 md) 0)))) hc [.int 0, .int 1] cw_X6_173 rfl dX6_isCommand_206 (c_X6_digits l hlf g _ q (ic1 md) 0 1 hW hA1 (by first | assumption | decide) (by first | assumption | decide)) hW.o hM hS hl.1 rfl rfl ⟨Nat.le_of_ble_eq_true rfl, Nat.le_of_ble_eq_true rfl⟩ ⟨Nat.le_of_ble_eq_true rfl, Nat.le_of_ble_eq_true rfl⟩ (Nat.le_of_ble_eq_true rfl) (fun H locs hM hS => ?_)
      have hM := hR.eq hM putD_putD
      have hW := MdAt.put (g := g) (M := M) (m := q) (md := (dgT (ic1 md) 0 1))
      refine lv_if_eq (tgt := 234) hx hb dX6_isCommand_209 (by decide) (fun c_209 => ?_) (fun c_209 => ?_)
      · skip
        have c_209 := bI_eq.mp c_209
        refine lv_iconst (v := 0) hx hb dX6_isCommand_234 (by decide) ?_
        exact k_zret hc hr dX6_isCommand_235 hM hS (by first | rfl | exact bI_n) (Nat.le_of_ble_eq_true rfl) (Nat.le_of_ble_eq_true rfl) (by first | (simp only [icR, mpL, lfS, lfE, lfB, lfT, bI, eq_false c_8, eq_false c_30_98, eq_false c_30_100, eq_true c_30_101, eq_false c_209, eq_self, bM_l, bM_r, rsM_l, rsM_r, seV_l, seV_r, snE_l, snE_r, up1_at, up1_up1, up2_up2, not_false_eq_true, not_true_eq_false, and_true, true_and, and_false, false_and, and_self, ↓reduceIte, or_true, true_or, or_self, or_false, false_or, Bool.false_eq_true]; done) | (simp only [icR, mpL, lfS, lfE, lfB, lfT, bI, eq_false c_8, eq_false c_30_98, eq_false c_30_100, eq_true c_30_101, eq_false c_209, eq_self, bM_l, bM_r, rsM_l, rsM_r, seV_l, seV_r, snE_l, snE_r, up1_at, up1_up1, up2_up2, not_false_eq_true, not_true_eq_false, and_true, true_and, and_false, false_and, and_self, ↓reduceIte, or_true, true_or, or_self, or_false, false_or, Bool.false_eq_true]; rfl) | (simp only [icR, mpL, lfS, lfE, lfB, lfT, bI, eq_false c_8, eq_false c_30_98, eq_false c_30_100, eq_true c_30_101, eq_false c_209, eq_self, bM_l, bM_r, rsM_l, rsM_r, seV_l, seV_r, snE_l, snE_r, up1_at, up1_up1, up2_up2, not_false_eq_true, not_true_eq_false, and_true, true_and, and_false, false_and, and_self, ↓reduceIte, or_true, true_or, or_self, or_false, false_or, Bool.false_eq_true]; rw [putD_same hW]))
      · skip
        have c_209 := bI_ne.mp c_209
        refine lv_aload_n hx hb dX6_isCommand_212 rfl (lv_at hl 0 rfl) ?_
        refine lv_bipush (v := 47) hx hb dX6_isCommand_213 (by decide) ?_
        refine k_V1 (v := .int (bI (nxP (dgT (ic1 md) 0 1) 47))) hc [.int 47] cw_X6_176 rfl dX6_isCommand_215 (c_X6_isNext l hlf g _ q (dgT (ic1 md) 0 1) 47 hW (dgT_ok hA1)) hW.o hM hS hl.1 rfl rfl ⟨Nat.le_of_ble_eq_true rfl, Nat.le_of_ble_eq_true rfl⟩ ⟨Nat.le_of_ble_eq_true rfl, Nat.le_of_ble_eq_true rfl⟩ (Nat.le_of_ble_eq_true rfl) (fun H locs hM hS => ?_)
        have hM := hR.eq hM putD_putD
        have hW := MdAt.put (g := g) (M := M) (m := q) (md := (nxS (dgT (ic1 md) 0 1) 47))
        refine lv_if_eq (tgt := 234) hx hb dX6_isCommand_218 (by decide) (fun c_218 => ?_) (fun c_218 => ?_)
        · skip
          have c_218 := bI_eq.mp c_218
          refine lv_iconst (v := 0) hx hb dX6_isCommand_234 (by decide) ?_
          exact k_zret hc hr dX6_isCommand_235 hM hS (by first | rfl | exact bI_n) (Nat.le_of_ble_eq_true rfl) (Nat.le_of_ble_eq_true rfl) (by first | (simp only [icR, mpL, lfS, lfE, lfB, lfT, bI, eq_false c_8, eq_false c_30_98, eq_false c_30_100, eq_true c_30_101, eq_true c_209, eq_false c_218, eq_self, bM_l, bM_r, rsM_l, rsM_r, seV_l, seV_r, snE_l, snE_r, up1_at, up1_up1, up2_up2, not_false_eq_true, not_true_eq_false, and_true, true_and, and_false, false_and, and_self, ↓reduceIte, or_true, true_or, or_self, or_false, false_or, Bool.false_eq_true]; done) | (simp only [icR, mpL, lfS, lfE, lfB, lfT, bI, eq_false c_8, eq_false c_30_98, eq_false c_30_100, eq_true c_30_101, eq_true c_209, eq_false c_218, eq_self, bM_l, bM_r, rsM_l, rsM_r, seV_l, seV_r, snE_l, snE_r, up1_at, up1_up1, up2_up2, not_false_eq_true, not_true_eq_false, and_true, true_and, and_false, false_and, and_self, ↓reduceIte, or_true, true_or, or_self, or_false, false_or, Bool.false_eq_true]; rfl) | (simp only [icR, mpL, lfS, lfE, lfB, lfT, bI, eq_false c_8, eq_false c_30_98, eq_false c_30_100, eq_true c_30_101, eq_true c_209, eq_false c_218, eq_self, bM_l, bM_r, rsM_l, rsM_r, seV_l, seV_r, snE_l, snE_r, up1_at, up1_up1, up2_up2, not_false_eq_true, not_true_eq_false, and_true, true_and, and_false, false_and, and_self, ↓reduceIte, or_true, true_or, or_self, or_false, false_or, Bool.false_eq_true]; rw [putD_same hW]))
        · skip
          have c_218 := bI_ne.mp c_218
          refine lv_aload_n hx hb dX6_isCommand_221 rfl (lv_at hl 0 rfl) ?_
          refine lv_iconst (v := 1) hx hb dX6_isCommand_222 (by decide) ?_
          refine lv_iconst (v := 1) hx hb dX6_isCommand_223 (by decide) ?_
          refine k_V1 (v := .int (bI (dgQ (dg0 (nxS (dgT (ic1 md) 0 1) 47) 1)))) hc [.int 1, .int 1] cw_X6_173 rfl dX6_isCommand_224 (c_X6_digits l hlf g _ q (nxS (dgT (ic1 md) 0 1) 47) 1 1 hW (nx_ok (dgT_ok hA1)) (by first | assumption | decide) (by first | assumption | decide)) hW.o hM hS hl.1 rfl rfl ⟨Nat.le_of_ble_eq_true rfl, Nat.le_of_ble_eq_true rfl⟩ ⟨Nat.le_of_ble_eq_true rfl, Nat.le_of_ble_eq_true rfl⟩ (Nat.le_of_ble_eq_true rfl) (fun H locs hM hS => ?_)
          have hM := hR.eq hM putD_putD
          have hW := MdAt.put (g := g) (M := M) (m := q) (md := (dgT (nxS (dgT (ic1 md) 0 1) 47) 1 1))
          refine lv_if_eq (tgt := 234) hx hb dX6_isCommand_227 (by decide) (fun c_227 => ?_) (fun c_227 => ?_)
          · skip
            have c_227 := bI_eq.mp c_227
            refine lv_iconst (v := 0) hx hb dX6_isCommand_234 (by decide) ?_
            exact k_zret hc hr dX6_isCommand_235 hM hS (by first | rfl | exact bI_n) (Nat.le_of_ble_eq_true rfl) (Nat.le_of_ble_eq_true rfl) (by first | (simp only [icR, mpL, lfS, lfE, lfB, lfT, bI, eq_false c_8, eq_false c_30_98, eq_false c_30_100, eq_true c_30_101, eq_true c_209, eq_true c_218, eq_false c_227, eq_self, bM_l, bM_r, rsM_l, rsM_r, seV_l, seV_r, snE_l, snE_r, up1_at, up1_up1, up2_up2, not_false_eq_true, not_true_eq_false, and_true, true_and, and_false, false_and, and_self, ↓reduceIte, or_true, true_or, or_self, or_false, false_or, Bool.false_eq_true]; done) | (simp only [icR, mpL, lfS, lfE, lfB, lfT, bI, eq_false c_8, eq_false c_30_98, eq_false c_30_100, eq_true c_30_101, eq_true c_209, eq_true c_218, eq_false c_227, eq_self, bM_l, bM_r, rsM_l, rsM_r, seV_l, seV_r, snE_l, snE_r, up1_at, up1_up1, up2_up2, not_false_eq_true, not_true_eq_false, and_true, true_and, and_false, false_and, and_self, ↓reduceIte, or_true, true_or, or_self, or_false, false_or, Bool.false_eq_true]; rfl) | (simp only [icR, mpL, lfS, lfE, lfB, lfT, bI, eq_false c_8, eq_false c_30_98, eq_false c_30_100, eq_true c_30_101, eq_true c_209, eq_true c_218, eq_false c_227, eq_self, bM_l, bM_r, rsM_l, rsM_r, seV_l, seV_r, snE_l, snE_r, up1_at, up1_up1, up2_up2, not_false_eq_true, not_true_eq_false, and_true, true_and, and_false, false_and, and_self, ↓reduceIte, or_true, true_or, or_self, or_false, false_or, Bool.false_eq_true]; rw [putD_same hW]))
          · skip
            have c_227 := bI_ne.mp c_227
            refine lv_iconst (v := 1) hx hb dX6_isCommand_230 (by decide) ?_
            refine lv_goto (tgt := 235) hx hb dX6_isCommand_231 (by decide) ?_
            exact k_zret hc hr dX6_isCommand_235 hM hS (by first | rfl | exact bI_n) (Nat.le_of_ble_eq_true rfl) (Nat.le_of_ble_eq_true rfl) (by first | (simp only [icR, mpL, lfS, lfE, lfB, lfT, bI, eq_false c_8, eq_false c_30_98, eq_false c_30_100, eq_true c_30_101, eq_true c_209, eq_true c_218, eq_true c_227, eq_self, bM_l, bM_r, rsM_l, rsM_r, seV_l, seV_r, snE_l, snE_r, up1_at, up1_up1, up2_up2, not_false_eq_true, not_true_eq_false, and_true, true_and, and_false, false_and, and_self, ↓reduceIte, or_true, true_or, or_self, or_false, false_or, Bool.false_eq_true]; done) | (simp only [icR, mpL, lfS, lfE, lfB, lfT, bI, eq_false c_8, eq_false c_30_98, eq_false c_30_100, eq_true c_30_101, eq_true c_209, eq_true c_218, eq_true c_227, eq_self, bM_l, bM_r, rsM_l, rsM_r, seV_l, seV_r, snE_l, snE_r, up1_at, up1_up1, up2_up2, not_false_eq_true, not_true_eq_false, and_true, true_and, and_false, false_and, and_self, ↓reduceIte, or_true, true_or, or_self, or_false, false_or, Bool.false_eq_true]; rfl) | (simp only [icR, mpL, lfS, lfE, lfB, lfT, bI, eq_false c_8, eq_false c_30_98, eq_false c_30_100, eq_true c_30_101, eq_true c_209, eq_true c_218, eq_true c_227, eq_self, bM_l, bM_r, rsM_l, rsM_r, seV_l, seV_r, snE_l, snE_r, up1_at, up1_up1, up2_up2, not_false_eq_true, not_true_eq_false, and_true, true_and, and_false, false_and, and_self, ↓reduceIte, or_true, true_or, or_self, or_false, false_or, Bool.false_eq_true]; rw [putD_same hW]))
    by_cases c_30_108 : ((md 5) (md 7 10).toNatClampNeg) = 108
    · skip
      have e_30 : ((md 5) (md 7 10).toNatClampNeg).toInt = 108 := by rw [c_30_108]; rfl
      refine lv_tableIn (tgt := 253) hx hb dX6_isCommand_30 (by rw [e_30]; decide) (by rw [e_30]; decide) (by rw [e_30]; rfl) (by decide) ?_
      refine lv_aload_n hx hb dX6_isCommand_253 rfl (lv_at hl 0 rfl) ?_
      refine lv_dup hx hb dX6_isCommand_254 rfl ?_
      refine gt_X6_166 hc dX6_isCommand_255 hM hW.o (v := .int (md 7 10)) rfl ?_
      refine lv_iconst (v := 1) hx hb dX6_isCommand_258 (by decide) ?_
      refine lv_iadd hx hb dX6_isCommand_259 ?_
      refine pt_X6_166 hc dX6_isCommand_260 hM hS hW.o rfl rfl (Nat.le_of_ble_eq_true rfl) (fun H locs hM hS => ?_)
      have hM := hR.eq hM (putD_sc hW 10 (v := ((md 7 10) + 1)) md_s10)
      have hM := hR.eq hM putD_putD
      have hW := MdAt.put (g := g) (M := M) (m := q) (md := (up2 (up2 md 7 11 ((md 5) (md 7 10).toNatClampNeg)) 7 10 ((md 7 10) + 1)))
      have hM : hR g (putD g M q (ic1 md)) H := hM
      have hW := MdAt.put (g := g) (M := M) (m := q) (md := (ic1 md))
      have hA1 : aOk (ic1 md) := aOk_s hA c_8 rfl rfl
      refine lv_aload_n hx hb dX6_isCommand_263 rfl (lv_at hl 0 rfl) ?_
      refine lv_iconst (v := 0) hx hb dX6_isCommand_264 (by decide) ?_
      refine lv_iconst (v := 1) hx hb dX6_isCommand_265 (by decide) ?_
      refine k_V1 (v := .int (bI (dgQ (dg0 (ic1 md) 0)))) hc [.int 0, .int 1] cw_X6_173 rfl dX6_isCommand_266 (c_X6_digits l hlf g _ q (ic1 md) 0 1 hW hA1 (by first | assumption | decide) (by first | assumption | decide)) hW.o hM hS hl.1 rfl rfl ⟨Nat.le_of_ble_eq_true rfl, Nat.le_of_ble_eq_true rfl⟩ ⟨Nat.le_of_ble_eq_true rfl, Nat.le_of_ble_eq_true rfl⟩ (Nat.le_of_ble_eq_true rfl) (fun H locs hM hS => ?_)
      have hM := hR.eq hM putD_putD
      have hW := MdAt.put (g := g) (M := M) (m := q) (md := (dgT (ic1 md) 0 1))
      exact k_zret hc hr dX6_isCommand_269 hM hS bI_n (Nat.le_of_ble_eq_true rfl) (Nat.le_of_ble_eq_true rfl) (by by_cases hz : (dgQ (dg0 (ic1 md) 0)); (rw [bI_t hz]; simp only [icR, mpL, lfS, lfE, lfB, lfT, bI, eq_false c_8, eq_false c_30_98, eq_false c_30_100, eq_false c_30_101, eq_true c_30_108, eq_true hz, eq_self, bM_l, bM_r, rsM_l, rsM_r, seV_l, seV_r, snE_l, snE_r, up1_at, up1_up1, up2_up2, not_false_eq_true, not_true_eq_false, and_true, true_and, and_false, false_and, and_self, ↓reduceIte, or_true, true_or, or_self, or_false, false_or, Bool.false_eq_true]); (rw [bI_f hz]; simp only [icR, mpL, lfS, lfE, lfB, lfT, bI, eq_false c_8, eq_false c_30_98, eq_false c_30_100, eq_false c_30_101, eq_true c_30_108, eq_false hz, eq_self, bM_l, bM_r, rsM_l, rsM_r, seV_l, seV_r, snE_l, snE_r, up1_at, up1_up1, up2_up2, not_false_eq_true, not_true_eq_false, and_true, true_and, and_false, false_and, and_self, ↓reduceIte, or_true, true_or, or_self, or_false, false_or, Bool.false_eq_true]))
    by_cases c_30_115 : ((md 5) (md 7 10).toNatClampNeg) = 115
    · skip
      have e_30 : ((md 5) (md 7 10).toNatClampNeg).toInt = 115 := by rw [c_30_115]; rfl
      refine lv_tableIn (tgt := 132) hx hb dX6_isCommand_30 (by rw [e_30]; decide) (by rw [e_30]; decide) (by rw [e_30]; rfl) (by decide) ?_
      refine lv_aload_n hx hb dX6_isCommand_132 rfl (lv_at hl 0 rfl) ?_
      refine lv_dup hx hb dX6_isCommand_133 rfl ?_
      refine gt_X6_166 hc dX6_isCommand_134 hM hW.o (v := .int (md 7 10)) rfl ?_
      refine lv_iconst (v := 1) hx hb dX6_isCommand_137 (by decide) ?_
      refine lv_iadd hx hb dX6_isCommand_138 ?_
      refine pt_X6_166 hc dX6_isCommand_139 hM hS hW.o rfl rfl (Nat.le_of_ble_eq_true rfl) (fun H locs hM hS => ?_)
      have hM := hR.eq hM (putD_sc hW 10 (v := ((md 7 10) + 1)) md_s10)
      have hM := hR.eq hM putD_putD
      have hW := MdAt.put (g := g) (M := M) (m := q) (md := (up2 (up2 md 7 11 ((md 5) (md 7 10).toNatClampNeg)) 7 10 ((md 7 10) + 1)))
      have hM : hR g (putD g M q (ic1 md)) H := hM
      have hW := MdAt.put (g := g) (M := M) (m := q) (md := (ic1 md))
      have hA1 : aOk (ic1 md) := aOk_s hA c_8 rfl rfl
      refine lv_aload_n hx hb dX6_isCommand_142 rfl (lv_at hl 0 rfl) ?_
      refine lv_iconst (v := 0) hx hb dX6_isCommand_143 (by decide) ?_
      refine lv_iconst (v := 1) hx hb dX6_isCommand_144 (by decide) ?_
      refine k_V1 (v := .int (bI (dgQ (dg0 (ic1 md) 0)))) hc [.int 0, .int 1] cw_X6_173 rfl dX6_isCommand_145 (c_X6_digits l hlf g _ q (ic1 md) 0 1 hW hA1 (by first | assumption | decide) (by first | assumption | decide)) hW.o hM hS hl.1 rfl rfl ⟨Nat.le_of_ble_eq_true rfl, Nat.le_of_ble_eq_true rfl⟩ ⟨Nat.le_of_ble_eq_true rfl, Nat.le_of_ble_eq_true rfl⟩ (Nat.le_of_ble_eq_true rfl) (fun H locs hM hS => ?_)
      have hM := hR.eq hM putD_putD
      have hW := MdAt.put (g := g) (M := M) (m := q) (md := (dgT (ic1 md) 0 1))
      refine lv_if_eq (tgt := 191) hx hb dX6_isCommand_148 (by decide) (fun c_148 => ?_) (fun c_148 => ?_)
      · skip
        have c_148 := bI_eq.mp c_148
        refine lv_iconst (v := 0) hx hb dX6_isCommand_191 (by decide) ?_
        exact k_zret hc hr dX6_isCommand_192 hM hS (by first | rfl | exact bI_n) (Nat.le_of_ble_eq_true rfl) (Nat.le_of_ble_eq_true rfl) (by first | (simp only [icR, mpL, lfS, lfE, lfB, lfT, bI, eq_false c_8, eq_false c_30_98, eq_false c_30_100, eq_false c_30_101, eq_false c_30_108, eq_true c_30_115, eq_false c_148, eq_self, bM_l, bM_r, rsM_l, rsM_r, seV_l, seV_r, snE_l, snE_r, up1_at, up1_up1, up2_up2, not_false_eq_true, not_true_eq_false, and_true, true_and, and_false, false_and, and_self, ↓reduceIte, or_true, true_or, or_self, or_false, false_or, Bool.false_eq_true]; done) | (simp only [icR, mpL, lfS, lfE, lfB, lfT, bI, eq_false c_8, eq_false c_30_98, eq_false c_30_100, eq_false c_30_101, eq_false c_30_108, eq_true c_30_115, eq_false c_148, eq_self, bM_l, bM_r, rsM_l, rsM_r, seV_l, seV_r, snE_l, snE_r, up1_at, up1_up1, up2_up2, not_false_eq_true, not_true_eq_false, and_true, true_and, and_false, false_and, and_self, ↓reduceIte, or_true, true_or, or_self, or_false, false_or, Bool.false_eq_true]; rfl) | (simp only [icR, mpL, lfS, lfE, lfB, lfT, bI, eq_false c_8, eq_false c_30_98, eq_false c_30_100, eq_false c_30_101, eq_false c_30_108, eq_true c_30_115, eq_false c_148, eq_self, bM_l, bM_r, rsM_l, rsM_r, seV_l, seV_r, snE_l, snE_r, up1_at, up1_up1, up2_up2, not_false_eq_true, not_true_eq_false, and_true, true_and, and_false, false_and, and_self, ↓reduceIte, or_true, true_or, or_self, or_false, false_or, Bool.false_eq_true]; rw [putD_same hW]))
      · skip
        have c_148 := bI_ne.mp c_148
        refine lv_aload_n hx hb dX6_isCommand_151 rfl (lv_at hl 0 rfl) ?_
        refine lv_bipush (v := 64) hx hb dX6_isCommand_152 (by decide) ?_
        refine k_V1 (v := .int (bI (nxP (dgT (ic1 md) 0 1) 64))) hc [.int 64] cw_X6_176 rfl dX6_isCommand_154 (c_X6_isNext l hlf g _ q (dgT (ic1 md) 0 1) 64 hW (dgT_ok hA1)) hW.o hM hS hl.1 rfl rfl ⟨Nat.le_of_ble_eq_true rfl, Nat.le_of_ble_eq_true rfl⟩ ⟨Nat.le_of_ble_eq_true rfl, Nat.le_of_ble_eq_true rfl⟩ (Nat.le_of_ble_eq_true rfl) (fun H locs hM hS => ?_)
        have hM := hR.eq hM putD_putD
        have hW := MdAt.put (g := g) (M := M) (m := q) (md := (nxS (dgT (ic1 md) 0 1) 64))
        refine lv_if_eq (tgt := 191) hx hb dX6_isCommand_157 (by decide) (fun c_157 => ?_) (fun c_157 => ?_)
        · skip
          have c_157 := bI_eq.mp c_157
          refine lv_iconst (v := 0) hx hb dX6_isCommand_191 (by decide) ?_
          exact k_zret hc hr dX6_isCommand_192 hM hS (by first | rfl | exact bI_n) (Nat.le_of_ble_eq_true rfl) (Nat.le_of_ble_eq_true rfl) (by first | (simp only [icR, mpL, lfS, lfE, lfB, lfT, bI, eq_false c_8, eq_false c_30_98, eq_false c_30_100, eq_false c_30_101, eq_false c_30_108, eq_true c_30_115, eq_true c_148, eq_false c_157, eq_self, bM_l, bM_r, rsM_l, rsM_r, seV_l, seV_r, snE_l, snE_r, up1_at, up1_up1, up2_up2, not_false_eq_true, not_true_eq_false, and_true, true_and, and_false, false_and, and_self, ↓reduceIte, or_true, true_or, or_self, or_false, false_or, Bool.false_eq_true]; done) | (simp only [icR, mpL, lfS, lfE, lfB, lfT, bI, eq_false c_8, eq_false c_30_98, eq_false c_30_100, eq_false c_30_101, eq_false c_30_108, eq_true c_30_115, eq_true c_148, eq_false c_157, eq_self, bM_l, bM_r, rsM_l, rsM_r, seV_l, seV_r, snE_l, snE_r, up1_at, up1_up1, up2_up2, not_false_eq_true, not_true_eq_false, and_true, true_and, and_false, false_and, and_self, ↓reduceIte, or_true, true_or, or_self, or_false, false_or, Bool.false_eq_true]; rfl) | (simp only [icR, mpL, lfS, lfE, lfB, lfT, bI, eq_false c_8, eq_false c_30_98, eq_false c_30_100, eq_false c_30_101, eq_false c_30_108, eq_true c_30_115, eq_true c_148, eq_false c_157, eq_self, bM_l, bM_r, rsM_l, rsM_r, seV_l, seV_r, snE_l, snE_r, up1_at, up1_up1, up2_up2, not_false_eq_true, not_true_eq_false, and_true, true_and, and_false, false_and, and_self, ↓reduceIte, or_true, true_or, or_self, or_false, false_or, Bool.false_eq_true]; rw [putD_same hW]))
        · skip
          have c_157 := bI_ne.mp c_157
          refine lv_aload_n hx hb dX6_isCommand_160 rfl (lv_at hl 0 rfl) ?_
          refine lv_iconst (v := 1) hx hb dX6_isCommand_161 (by decide) ?_
          refine lv_iconst (v := 1) hx hb dX6_isCommand_162 (by decide) ?_
          refine k_V1 (v := .int (bI (dgQ (dg0 (nxS (dgT (ic1 md) 0 1) 64) 1)))) hc [.int 1, .int 1] cw_X6_173 rfl dX6_isCommand_163 (c_X6_digits l hlf g _ q (nxS (dgT (ic1 md) 0 1) 64) 1 1 hW (nx_ok (dgT_ok hA1)) (by first | assumption | decide) (by first | assumption | decide)) hW.o hM hS hl.1 rfl rfl ⟨Nat.le_of_ble_eq_true rfl, Nat.le_of_ble_eq_true rfl⟩ ⟨Nat.le_of_ble_eq_true rfl, Nat.le_of_ble_eq_true rfl⟩ (Nat.le_of_ble_eq_true rfl) (fun H locs hM hS => ?_)
          have hM := hR.eq hM putD_putD
          have hW := MdAt.put (g := g) (M := M) (m := q) (md := (dgT (nxS (dgT (ic1 md) 0 1) 64) 1 1))
          refine lv_if_eq (tgt := 191) hx hb dX6_isCommand_166 (by decide) (fun c_166 => ?_) (fun c_166 => ?_)
          · skip
            have c_166 := bI_eq.mp c_166
            refine lv_iconst (v := 0) hx hb dX6_isCommand_191 (by decide) ?_
            exact k_zret hc hr dX6_isCommand_192 hM hS (by first | rfl | exact bI_n) (Nat.le_of_ble_eq_true rfl) (Nat.le_of_ble_eq_true rfl) (by first | (simp only [icR, mpL, lfS, lfE, lfB, lfT, bI, eq_false c_8, eq_false c_30_98, eq_false c_30_100, eq_false c_30_101, eq_false c_30_108, eq_true c_30_115, eq_true c_148, eq_true c_157, eq_false c_166, eq_self, bM_l, bM_r, rsM_l, rsM_r, seV_l, seV_r, snE_l, snE_r, up1_at, up1_up1, up2_up2, not_false_eq_true, not_true_eq_false, and_true, true_and, and_false, false_and, and_self, ↓reduceIte, or_true, true_or, or_self, or_false, false_or, Bool.false_eq_true]; done) | (simp only [icR, mpL, lfS, lfE, lfB, lfT, bI, eq_false c_8, eq_false c_30_98, eq_false c_30_100, eq_false c_30_101, eq_false c_30_108, eq_true c_30_115, eq_true c_148, eq_true c_157, eq_false c_166, eq_self, bM_l, bM_r, rsM_l, rsM_r, seV_l, seV_r, snE_l, snE_r, up1_at, up1_up1, up2_up2, not_false_eq_true, not_true_eq_false, and_true, true_and, and_false, false_and, and_self, ↓reduceIte, or_true, true_or, or_self, or_false, false_or, Bool.false_eq_true]; rfl) | (simp only [icR, mpL, lfS, lfE, lfB, lfT, bI, eq_false c_8, eq_false c_30_98, eq_false c_30_100, eq_false c_30_101, eq_false c_30_108, eq_true c_30_115, eq_true c_148, eq_true c_157, eq_false c_166, eq_self, bM_l, bM_r, rsM_l, rsM_r, seV_l, seV_r, snE_l, snE_r, up1_at, up1_up1, up2_up2, not_false_eq_true, not_true_eq_false, and_true, true_and, and_false, false_and, and_self, ↓reduceIte, or_true, true_or, or_self, or_false, false_or, Bool.false_eq_true]; rw [putD_same hW]))
          · skip
            have c_166 := bI_ne.mp c_166
            refine lv_aload_n hx hb dX6_isCommand_169 rfl (lv_at hl 0 rfl) ?_
            refine lv_bipush (v := 62) hx hb dX6_isCommand_170 (by decide) ?_
            refine k_V1 (v := .int (bI (nxP (dgT (nxS (dgT (ic1 md) 0 1) 64) 1 1) 62))) hc [.int 62] cw_X6_176 rfl dX6_isCommand_172 (c_X6_isNext l hlf g _ q (dgT (nxS (dgT (ic1 md) 0 1) 64) 1 1) 62 hW (dgT_ok (nx_ok (dgT_ok hA1)))) hW.o hM hS hl.1 rfl rfl ⟨Nat.le_of_ble_eq_true rfl, Nat.le_of_ble_eq_true rfl⟩ ⟨Nat.le_of_ble_eq_true rfl, Nat.le_of_ble_eq_true rfl⟩ (Nat.le_of_ble_eq_true rfl) (fun H locs hM hS => ?_)
            have hM := hR.eq hM putD_putD
            have hW := MdAt.put (g := g) (M := M) (m := q) (md := (nxS (dgT (nxS (dgT (ic1 md) 0 1) 64) 1 1) 62))
            refine lv_if_eq (tgt := 191) hx hb dX6_isCommand_175 (by decide) (fun c_175 => ?_) (fun c_175 => ?_)
            · skip
              have c_175 := bI_eq.mp c_175
              refine lv_iconst (v := 0) hx hb dX6_isCommand_191 (by decide) ?_
              exact k_zret hc hr dX6_isCommand_192 hM hS (by first | rfl | exact bI_n) (Nat.le_of_ble_eq_true rfl) (Nat.le_of_ble_eq_true rfl) (by first | (simp only [icR, mpL, lfS, lfE, lfB, lfT, bI, eq_false c_8, eq_false c_30_98, eq_false c_30_100, eq_false c_30_101, eq_false c_30_108, eq_true c_30_115, eq_true c_148, eq_true c_157, eq_true c_166, eq_false c_175, eq_self, bM_l, bM_r, rsM_l, rsM_r, seV_l, seV_r, snE_l, snE_r, up1_at, up1_up1, up2_up2, not_false_eq_true, not_true_eq_false, and_true, true_and, and_false, false_and, and_self, ↓reduceIte, or_true, true_or, or_self, or_false, false_or, Bool.false_eq_true]; done) | (simp only [icR, mpL, lfS, lfE, lfB, lfT, bI, eq_false c_8, eq_false c_30_98, eq_false c_30_100, eq_false c_30_101, eq_false c_30_108, eq_true c_30_115, eq_true c_148, eq_true c_157, eq_true c_166, eq_false c_175, eq_self, bM_l, bM_r, rsM_l, rsM_r, seV_l, seV_r, snE_l, snE_r, up1_at, up1_up1, up2_up2, not_false_eq_true, not_true_eq_false, and_true, true_and, and_false, false_and, and_self, ↓reduceIte, or_true, true_or, or_self, or_false, false_or, Bool.false_eq_true]; rfl) | (simp only [icR, mpL, lfS, lfE, lfB, lfT, bI, eq_false c_8, eq_false c_30_98, eq_false c_30_100, eq_false c_30_101, eq_false c_30_108, eq_true c_30_115, eq_true c_148, eq_true c_157, eq_true c_166, eq_false c_175, eq_self, bM_l, bM_r, rsM_l, rsM_r, seV_l, seV_r, snE_l, snE_r, up1_at, up1_up1, up2_up2, not_false_eq_true, not_true_eq_false, and_true, true_and, and_false, false_and, and_self, ↓reduceIte, or_true, true_or, or_self, or_false, false_or, Bool.false_eq_true]; rw [putD_same hW]))
            · skip
              have c_175 := bI_ne.mp c_175
              refine lv_aload_n hx hb dX6_isCommand_178 rfl (lv_at hl 0 rfl) ?_
              refine lv_iconst (v := 2) hx hb dX6_isCommand_179 (by decide) ?_
              refine lv_iconst (v := 1) hx hb dX6_isCommand_180 (by decide) ?_
              refine k_V1 (v := .int (bI (dgQ (dg0 (nxS (dgT (nxS (dgT (ic1 md) 0 1) 64) 1 1) 62) 2)))) hc [.int 2, .int 1] cw_X6_173 rfl dX6_isCommand_181 (c_X6_digits l hlf g _ q (nxS (dgT (nxS (dgT (ic1 md) 0 1) 64) 1 1) 62) 2 1 hW (nx_ok (dgT_ok (nx_ok (dgT_ok hA1)))) (by first | assumption | decide) (by first | assumption | decide)) hW.o hM hS hl.1 rfl rfl ⟨Nat.le_of_ble_eq_true rfl, Nat.le_of_ble_eq_true rfl⟩ ⟨Nat.le_of_ble_eq_true rfl, Nat.le_of_ble_eq_true rfl⟩ (Nat.le_of_ble_eq_true rfl) (fun H locs hM hS => ?_)
              have hM := hR.eq hM putD_putD
              have hW := MdAt.put (g := g) (M := M) (m := q) (md := (dgT (nxS (dgT (nxS (dgT (ic1 md) 0 1) 64) 1 1) 62) 2 1))
              refine lv_if_eq (tgt := 191) hx hb dX6_isCommand_184 (by decide) (fun c_184 => ?_) (fun c_184 => ?_)
              · skip
                have c_184 := bI_eq.mp c_184
                refine lv_iconst (v := 0) hx hb dX6_isCommand_191 (by decide) ?_
                exact k_zret hc hr dX6_isCommand_192 hM hS (by first | rfl | exact bI_n) (Nat.le_of_ble_eq_true rfl) (Nat.le_of_ble_eq_true rfl) (by first | (simp only [icR, mpL, lfS, lfE, lfB, lfT, bI, eq_false c_8, eq_false c_30_98, eq_false c_30_100, eq_false c_30_101, eq_false c_30_108, eq_true c_30_115, eq_true c_148, eq_true c_157, eq_true c_166, eq_true c_175, eq_false c_184, eq_self, bM_l, bM_r, rsM_l, rsM_r, seV_l, seV_r, snE_l, snE_r, up1_at, up1_up1, up2_up2, not_false_eq_true, not_true_eq_false, and_true, true_and, and_false, false_and, and_self, ↓reduceIte, or_true, true_or, or_self, or_false, false_or, Bool.false_eq_true]; done) | (simp only [icR, mpL, lfS, lfE, lfB, lfT, bI, eq_false c_8, eq_false c_30_98, eq_false c_30_100, eq_false c_30_101, eq_false c_30_108, eq_true c_30_115, eq_true c_148, eq_true c_157, eq_true c_166, eq_true c_175, eq_false c_184, eq_self, bM_l, bM_r, rsM_l, rsM_r, seV_l, seV_r, snE_l, snE_r, up1_at, up1_up1, up2_up2, not_false_eq_true, not_true_eq_false, and_true, true_and, and_false, false_and, and_self, ↓reduceIte, or_true, true_or, or_self, or_false, false_or, Bool.false_eq_true]; rfl) | (simp only [icR, mpL, lfS, lfE, lfB, lfT, bI, eq_false c_8, eq_false c_30_98, eq_false c_30_100, eq_false c_30_101, eq_false c_30_108, eq_true c_30_115, eq_true c_148, eq_true c_157, eq_true c_166, eq_true c_175, eq_false c_184, eq_self, bM_l, bM_r, rsM_l, rsM_r, seV_l, seV_r, snE_l, snE_r, up1_at, up1_up1, up2_up2, not_false_eq_true, not_true_eq_false, and_true, true_and, and_false, false_and, and_self, ↓reduceIte, or_true, true_or, or_self, or_false, false_or, Bool.false_eq_true]; rw [putD_same hW]))
              · skip
                have c_184 := bI_ne.mp c_184
                refine lv_iconst (v := 1) hx hb dX6_isCommand_187 (by decide) ?_
                refine lv_goto (tgt := 192) hx hb dX6_isCommand_188 (by decide) ?_
                exact k_zret hc hr dX6_isCommand_192 hM hS (by first | rfl | exact bI_n) (Nat.le_of_ble_eq_true rfl) (Nat.le_of_ble_eq_true rfl) (by first | (simp only [icR, mpL, lfS, lfE, lfB, lfT, bI, eq_false c_8, eq_false c_30_98, eq_false c_30_100, eq_false c_30_101, eq_false c_30_108, eq_true c_30_115, eq_true c_148, eq_true c_157, eq_true c_166, eq_true c_175, eq_true c_184, eq_self, bM_l, bM_r, rsM_l, rsM_r, seV_l, seV_r, snE_l, snE_r, up1_at, up1_up1, up2_up2, not_false_eq_true, not_true_eq_false, and_true, true_and, and_false, false_and, and_self, ↓reduceIte, or_true, true_or, or_self, or_false, false_or, Bool.false_eq_true]; done) | (simp only [icR, mpL, lfS, lfE, lfB, lfT, bI, eq_false c_8, eq_false c_30_98, eq_false c_30_100, eq_false c_30_101, eq_false c_30_108, eq_true c_30_115, eq_true c_148, eq_true c_157, eq_true c_166, eq_true c_175, eq_true c_184, eq_self, bM_l, bM_r, rsM_l, rsM_r, seV_l, seV_r, snE_l, snE_r, up1_at, up1_up1, up2_up2, not_false_eq_true, not_true_eq_false, and_true, true_and, and_false, false_and, and_self, ↓reduceIte, or_true, true_or, or_self, or_false, false_or, Bool.false_eq_true]; rfl) | (simp only [icR, mpL, lfS, lfE, lfB, lfT, bI, eq_false c_8, eq_false c_30_98, eq_false c_30_100, eq_false c_30_101, eq_false c_30_108, eq_true c_30_115, eq_true c_148, eq_true c_157, eq_true c_166, eq_true c_175, eq_true c_184, eq_self, bM_l, bM_r, rsM_l, rsM_r, seV_l, seV_r, snE_l, snE_r, up1_at, up1_up1, up2_up2, not_false_eq_true, not_true_eq_false, and_true, true_and, and_false, false_and, and_self, ↓reduceIte, or_true, true_or, or_self, or_false, false_or, Bool.false_eq_true]; rw [putD_same hW]))
    by_cases c_30_116 : ((md 5) (md 7 10).toNatClampNeg) = 116
    · skip
      have e_30 : ((md 5) (md 7 10).toNatClampNeg).toInt = 116 := by rw [c_30_116]; rfl
      refine lv_tableIn (tgt := 253) hx hb dX6_isCommand_30 (by rw [e_30]; decide) (by rw [e_30]; decide) (by rw [e_30]; rfl) (by decide) ?_
      refine lv_aload_n hx hb dX6_isCommand_253 rfl (lv_at hl 0 rfl) ?_
      refine lv_dup hx hb dX6_isCommand_254 rfl ?_
      refine gt_X6_166 hc dX6_isCommand_255 hM hW.o (v := .int (md 7 10)) rfl ?_
      refine lv_iconst (v := 1) hx hb dX6_isCommand_258 (by decide) ?_
      refine lv_iadd hx hb dX6_isCommand_259 ?_
      refine pt_X6_166 hc dX6_isCommand_260 hM hS hW.o rfl rfl (Nat.le_of_ble_eq_true rfl) (fun H locs hM hS => ?_)
      have hM := hR.eq hM (putD_sc hW 10 (v := ((md 7 10) + 1)) md_s10)
      have hM := hR.eq hM putD_putD
      have hW := MdAt.put (g := g) (M := M) (m := q) (md := (up2 (up2 md 7 11 ((md 5) (md 7 10).toNatClampNeg)) 7 10 ((md 7 10) + 1)))
      have hM : hR g (putD g M q (ic1 md)) H := hM
      have hW := MdAt.put (g := g) (M := M) (m := q) (md := (ic1 md))
      have hA1 : aOk (ic1 md) := aOk_s hA c_8 rfl rfl
      refine lv_aload_n hx hb dX6_isCommand_263 rfl (lv_at hl 0 rfl) ?_
      refine lv_iconst (v := 0) hx hb dX6_isCommand_264 (by decide) ?_
      refine lv_iconst (v := 1) hx hb dX6_isCommand_265 (by decide) ?_
      refine k_V1 (v := .int (bI (dgQ (dg0 (ic1 md) 0)))) hc [.int 0, .int 1] cw_X6_173 rfl dX6_isCommand_266 (c_X6_digits l hlf g _ q (ic1 md) 0 1 hW hA1 (by first | assumption | decide) (by first | assumption | decide)) hW.o hM hS hl.1 rfl rfl ⟨Nat.le_of_ble_eq_true rfl, Nat.le_of_ble_eq_true rfl⟩ ⟨Nat.le_of_ble_eq_true rfl, Nat.le_of_ble_eq_true rfl⟩ (Nat.le_of_ble_eq_true rfl) (fun H locs hM hS => ?_)
      have hM := hR.eq hM putD_putD
      have hW := MdAt.put (g := g) (M := M) (m := q) (md := (dgT (ic1 md) 0 1))
      exact k_zret hc hr dX6_isCommand_269 hM hS bI_n (Nat.le_of_ble_eq_true rfl) (Nat.le_of_ble_eq_true rfl) (by by_cases hz : (dgQ (dg0 (ic1 md) 0)); (rw [bI_t hz]; simp only [icR, mpL, lfS, lfE, lfB, lfT, bI, eq_false c_8, eq_false c_30_98, eq_false c_30_100, eq_false c_30_101, eq_false c_30_108, eq_false c_30_115, eq_true c_30_116, eq_true hz, eq_self, bM_l, bM_r, rsM_l, rsM_r, seV_l, seV_r, snE_l, snE_r, up1_at, up1_up1, up2_up2, not_false_eq_true, not_true_eq_false, and_true, true_and, and_false, false_and, and_self, ↓reduceIte, or_true, true_or, or_self, or_false, false_or, Bool.false_eq_true]); (rw [bI_f hz]; simp only [icR, mpL, lfS, lfE, lfB, lfT, bI, eq_false c_8, eq_false c_30_98, eq_false c_30_100, eq_false c_30_101, eq_false c_30_108, eq_false c_30_115, eq_true c_30_116, eq_false hz, eq_self, bM_l, bM_r, rsM_l, rsM_r, seV_l, seV_r, snE_l, snE_r, up1_at, up1_up1, up2_up2, not_false_eq_true, not_true_eq_false, and_true, true_and, and_false, false_and, and_self, ↓reduceIte, or_true, true_or, or_self, or_false, false_or, Bool.false_eq_true]))
    by_cases c_30_119 : ((md 5) (md 7 10).toNatClampNeg) = 119
    · skip
      have e_30 : ((md 5) (md 7 10).toNatClampNeg).toInt = 119 := by rw [c_30_119]; rfl
      refine lv_tableIn (tgt := 236) hx hb dX6_isCommand_30 (by rw [e_30]; decide) (by rw [e_30]; decide) (by rw [e_30]; rfl) (by decide) ?_
      refine lv_aload_n hx hb dX6_isCommand_236 rfl (lv_at hl 0 rfl) ?_
      refine lv_dup hx hb dX6_isCommand_237 rfl ?_
      refine gt_X6_166 hc dX6_isCommand_238 hM hW.o (v := .int (md 7 10)) rfl ?_
      refine lv_iconst (v := 1) hx hb dX6_isCommand_241 (by decide) ?_
      refine lv_iadd hx hb dX6_isCommand_242 ?_
      refine pt_X6_166 hc dX6_isCommand_243 hM hS hW.o rfl rfl (Nat.le_of_ble_eq_true rfl) (fun H locs hM hS => ?_)
      have hM := hR.eq hM (putD_sc hW 10 (v := ((md 7 10) + 1)) md_s10)
      have hM := hR.eq hM putD_putD
      have hW := MdAt.put (g := g) (M := M) (m := q) (md := (up2 (up2 md 7 11 ((md 5) (md 7 10).toNatClampNeg)) 7 10 ((md 7 10) + 1)))
      have hM : hR g (putD g M q (ic1 md)) H := hM
      have hW := MdAt.put (g := g) (M := M) (m := q) (md := (ic1 md))
      have hA1 : aOk (ic1 md) := aOk_s hA c_8 rfl rfl
      refine lv_aload_n hx hb dX6_isCommand_246 rfl (lv_at hl 0 rfl) ?_
      refine lv_iconst (v := 0) hx hb dX6_isCommand_247 (by decide) ?_
      refine lv_iconst (v := 2) hx hb dX6_isCommand_248 (by decide) ?_
      refine k_V1 (v := .int (bI (dgQ (dg0 (ic1 md) 0)))) hc [.int 0, .int 2] cw_X6_173 rfl dX6_isCommand_249 (c_X6_digits l hlf g _ q (ic1 md) 0 2 hW hA1 (by first | assumption | decide) (by first | assumption | decide)) hW.o hM hS hl.1 rfl rfl ⟨Nat.le_of_ble_eq_true rfl, Nat.le_of_ble_eq_true rfl⟩ ⟨Nat.le_of_ble_eq_true rfl, Nat.le_of_ble_eq_true rfl⟩ (Nat.le_of_ble_eq_true rfl) (fun H locs hM hS => ?_)
      have hM := hR.eq hM putD_putD
      have hW := MdAt.put (g := g) (M := M) (m := q) (md := (dgT (ic1 md) 0 2))
      exact k_zret hc hr dX6_isCommand_252 hM hS bI_n (Nat.le_of_ble_eq_true rfl) (Nat.le_of_ble_eq_true rfl) (by by_cases hz : (dgQ (dg0 (ic1 md) 0)); (rw [bI_t hz]; simp only [icR, mpL, lfS, lfE, lfB, lfT, bI, eq_false c_8, eq_false c_30_98, eq_false c_30_100, eq_false c_30_101, eq_false c_30_108, eq_false c_30_115, eq_false c_30_116, eq_true c_30_119, eq_true hz, eq_self, bM_l, bM_r, rsM_l, rsM_r, seV_l, seV_r, snE_l, snE_r, up1_at, up1_up1, up2_up2, not_false_eq_true, not_true_eq_false, and_true, true_and, and_false, false_and, and_self, ↓reduceIte, or_true, true_or, or_self, or_false, false_or, Bool.false_eq_true]); (rw [bI_f hz]; simp only [icR, mpL, lfS, lfE, lfB, lfT, bI, eq_false c_8, eq_false c_30_98, eq_false c_30_100, eq_false c_30_101, eq_false c_30_108, eq_false c_30_115, eq_false c_30_116, eq_true c_30_119, eq_false hz, eq_self, bM_l, bM_r, rsM_l, rsM_r, seV_l, seV_r, snE_l, snE_r, up1_at, up1_up1, up2_up2, not_false_eq_true, not_true_eq_false, and_true, true_and, and_false, false_and, and_self, ↓reduceIte, or_true, true_or, or_self, or_false, false_or, Bool.false_eq_true]))
    have t_30 : (((md 5) (md 7 10).toNatClampNeg).toInt < 98 ∨ 119 < ((md 5) (md 7 10).toNatClampNeg).toInt) ∨ (¬ ((md 5) (md 7 10).toNatClampNeg).toInt < 98 ∧ ¬ 119 < ((md 5) (md 7 10).toNatClampNeg).toInt ∧ (#[(206 : Int), (240 : Int), (223 : Int), (163 : Int), (240 : Int), (240 : Int), (240 : Int), (240 : Int), (240 : Int), (240 : Int), (223 : Int), (240 : Int), (240 : Int), (240 : Int), (240 : Int), (240 : Int), (240 : Int), (102 : Int), (223 : Int), (240 : Int), (240 : Int), (206 : Int)] : Array Int)[(((md 5) (md 7 10).toNatClampNeg).toInt - 98).toNat]? = some 240) := by
      by_cases h1 : ((md 5) (md 7 10).toNatClampNeg).toInt < 98
      · exact Or.inl (Or.inl h1)
      by_cases h2 : 119 < ((md 5) (md 7 10).toNatClampNeg).toInt
      · exact Or.inl (Or.inr h2)
      exact Or.inr ⟨h1, h2, tab_df (n := 22) (exc := [0, 2, 3, 10, 17, 18, 21]) (by decide) h1 h2 (by decide) (exc_c (tab_ne c_30_98 (by decide) h1) (exc_c (tab_ne c_30_100 (by decide) h1) (exc_c (tab_ne c_30_101 (by decide) h1) (exc_c (tab_ne c_30_108 (by decide) h1) (exc_c (tab_ne c_30_115 (by decide) h1) (exc_c (tab_ne c_30_116 (by decide) h1) (exc_c (tab_ne c_30_119 (by decide) h1) exc_n)))))))⟩
    refine k_tabDf (tgt := 270) hx hb dX6_isCommand_30 t_30 (by decide) ?_
    refine lv_iconst (v := 0) hx hb dX6_isCommand_270 (by decide) ?_
    exact k_zret hc hr dX6_isCommand_271 hM hS (by first | rfl | exact bI_n) (Nat.le_of_ble_eq_true rfl) (Nat.le_of_ble_eq_true rfl) (by first | (simp only [icR, mpL, lfS, lfE, lfB, lfT, bI, eq_false c_8, eq_false c_30_98, eq_false c_30_100, eq_false c_30_101, eq_false c_30_108, eq_false c_30_115, eq_false c_30_116, eq_false c_30_119, eq_self, bM_l, bM_r, rsM_l, rsM_r, seV_l, seV_r, snE_l, snE_r, up1_at, up1_up1, up2_up2, not_false_eq_true, not_true_eq_false, and_true, true_and, and_false, false_and, and_self, ↓reduceIte, or_true, true_or, or_self, or_false, false_or, Bool.false_eq_true]; done) | (simp only [icR, mpL, lfS, lfE, lfB, lfT, bI, eq_false c_8, eq_false c_30_98, eq_false c_30_100, eq_false c_30_101, eq_false c_30_108, eq_false c_30_115, eq_false c_30_116, eq_false c_30_119, eq_self, bM_l, bM_r, rsM_l, rsM_r, seV_l, seV_r, snE_l, snE_r, up1_at, up1_up1, up2_up2, not_false_eq_true, not_true_eq_false, and_true, true_and, and_false, false_and, and_self, ↓reduceIte, or_true, true_or, or_self, or_false, false_or, Bool.false_eq_true]; rfl) | (simp only [icR, mpL, lfS, lfE, lfB, lfT, bI, eq_false c_8, eq_false c_30_98, eq_false c_30_100, eq_false c_30_101, eq_false c_30_108, eq_false c_30_115, eq_false c_30_116, eq_false c_30_119, eq_self, bM_l, bM_r, rsM_l, rsM_r, seV_l, seV_r, snE_l, snE_r, up1_at, up1_up1, up2_up2, not_false_eq_true, not_true_eq_false, and_true, true_and, and_false, false_and, and_self, ↓reduceIte, or_true, true_or, or_self, or_false, false_or, Bool.false_eq_true]; rw [putD_same hW]))
  · skip
    refine lv_iconst (v := 0) hx hb dX6_isCommand_11 (by decide) ?_
    exact k_zret hc hr dX6_isCommand_12 hM hS (by first | rfl | exact bI_n) (Nat.le_of_ble_eq_true rfl) (Nat.le_of_ble_eq_true rfl) (by first | (simp only [icR, mpL, lfS, lfE, lfB, lfT, bI, eq_true c_8, eq_self, bM_l, bM_r, rsM_l, rsM_r, seV_l, seV_r, snE_l, snE_r, up1_at, up1_up1, up2_up2, not_false_eq_true, not_true_eq_false, and_true, true_and, and_false, false_and, and_self, ↓reduceIte, or_true, true_or, or_self, or_false, false_or, Bool.false_eq_true]; done) | (simp only [icR, mpL, lfS, lfE, lfB, lfT, bI, eq_true c_8, eq_self, bM_l, bM_r, rsM_l, rsM_r, seV_l, seV_r, snE_l, snE_r, up1_at, up1_up1, up2_up2, not_false_eq_true, not_true_eq_false, and_true, true_and, and_false, false_and, and_self, ↓reduceIte, or_true, true_or, or_self, or_false, false_or, Bool.false_eq_true]; rfl) | (simp only [icR, mpL, lfS, lfE, lfB, lfT, bI, eq_true c_8, eq_self, bM_l, bM_r, rsM_l, rsM_r, seV_l, seV_r, snE_l, snE_r, up1_at, up1_up1, up2_up2, not_false_eq_true, not_true_eq_false, and_true, true_and, and_false, false_and, and_self, ↓reduceIte, or_true, true_or, or_self, or_false, false_or, Bool.false_eq_true]; rw [putD_same hW]))
set_option maxHeartbeats 4000000 in
set_option maxRecDepth 100000 in
theorem c_X6_carries (l : Launch) (hlf : l.stackTraces = false) (g : GC) (M : HM) (q : Nat) (md : FL) (hW : MdAt g M q md) (hI : mOk (md 0)) (hL : leOk (md 0)) : KM g l yX6_carries cX6_carries 1 (some .boolean) 8 0 0 [.ref q] M (.inl (some (.int (bM (coM (md 7 11) (md 6 0) (md 6 1) (md 6 2) (md 0)))), (putD g M q (rsM md (coM (md 7 11) (md 6 0) (md 6 1) (md 6 2) (md 0)))))) := by
  refine k_meth hlf (by decide) (Nat.le_of_ble_eq_true rfl) fun p e s m below meth c ls hc hr hnx hM hS hl => ?_
  have hc : Cx g p l s m [.ref q].toArray meth c cX6_carries 1 RX6 := hc
  have hx := hc.1
  have hb := hc.2.1
  have hl : lv_has ls 1 [(0, .ref q)] := hl
  refine lv_aload_n hx hb dX6_carries_0 rfl (lv_at hl 0 rfl) ?_
  refine gt_X6_169 hc dX6_carries_1 hM hW.o (v := .int (md 7 11)) rfl ?_
  by_cases c_4_98 : (md 7 11) = 98
  · skip
    have e_4 : (md 7 11).toInt = 98 := by rw [c_4_98]; rfl
    refine lv_lookup (off := 100) (tgt := 104) hx hb dX6_carries_4 (by decide) (by rw [e_4]; decide) (by decide) ?_
    refine lv_aload_n hx hb dX6_carries_104 rfl (lv_at hl 0 rfl) ?_
    refine lv_aload_n hx hb dX6_carries_105 rfl (lv_at hl 0 rfl) ?_
    refine gt_X6_29 hc dX6_carries_106 hM hW.o rfl ?_
    refine lv_iconst (v := 0) hx hb dX6_carries_109 (by decide) ?_
    refine k_ialdN hc hM (n := 3) (hW.ar 6 (by decide) (by decide) rfl rfl) (X := 0) rfl (by omega) (by decide) dX6_carries_110 ?_
    refine k_V1 (v := .int (bM (riM (md 0) ((md 6) 0)))) hc [.int ((md 6) 0)] cw_X6_138 rfl dX6_carries_111 (c_X6_rings l hlf g _ q md ((md 6) 0) hW (by first | assumption | exact hI)) hW.o hM hS hl.1 rfl rfl ⟨Nat.le_of_ble_eq_true rfl, Nat.le_of_ble_eq_true rfl⟩ ⟨Nat.le_of_ble_eq_true rfl, Nat.le_of_ble_eq_true rfl⟩ (Nat.le_of_ble_eq_true rfl) (fun H locs hM hS => ?_)
    have hW := MdAt.put (g := g) (M := M) (m := q) (md := (rsM md (riM (md 0) ((md 6) 0))))
    exact k_zret hc hr dX6_carries_114 hM hS bM_n (Nat.le_of_ble_eq_true rfl) (Nat.le_of_ble_eq_true rfl) (by first | rfl | (simp only [coM, eq_true c_4_98, eq_self, bM_l, bM_r, rsM_l, rsM_r, seV_l, seV_r, snE_l, snE_r, up1_at, up1_up1, up2_up2, not_false_eq_true, not_true_eq_false, and_true, true_and, and_false, false_and, and_self, ↓reduceIte, or_true, true_or, or_self, or_false, false_or]; done) | (simp only [coM, eq_true c_4_98, eq_self, bM_l, bM_r, rsM_l, rsM_r, seV_l, seV_r, snE_l, snE_r, up1_at, up1_up1, up2_up2, not_false_eq_true, not_true_eq_false, and_true, true_and, and_false, false_and, and_self, ↓reduceIte, or_true, true_or, or_self, or_false, false_or]; rfl))
  by_cases c_4_101 : (md 7 11) = 101
  · skip
    have e_4 : (md 7 11).toInt = 101 := by rw [c_4_101]; rfl
    refine lv_lookup (off := 83) (tgt := 87) hx hb dX6_carries_4 (by decide) (by rw [e_4]; decide) (by decide) ?_
    refine lv_aload_n hx hb dX6_carries_87 rfl (lv_at hl 0 rfl) ?_
    refine lv_aload_n hx hb dX6_carries_88 rfl (lv_at hl 0 rfl) ?_
    refine gt_X6_29 hc dX6_carries_89 hM hW.o rfl ?_
    refine lv_iconst (v := 0) hx hb dX6_carries_92 (by decide) ?_
    refine k_ialdN hc hM (n := 3) (hW.ar 6 (by decide) (by decide) rfl rfl) (X := 0) rfl (by omega) (by decide) dX6_carries_93 ?_
    refine lv_aload_n hx hb dX6_carries_94 rfl (lv_at hl 0 rfl) ?_
    refine gt_X6_29 hc dX6_carries_95 hM hW.o rfl ?_
    refine lv_iconst (v := 1) hx hb dX6_carries_98 (by decide) ?_
    refine k_ialdN hc hM (n := 3) (hW.ar 6 (by decide) (by decide) rfl rfl) (X := 1) rfl (by omega) (by decide) dX6_carries_99 ?_
    refine k_V1 (v := .int (bM (erM (md 0) ((md 6) 0) ((md 6) 1)))) hc [.int ((md 6) 0), .int ((md 6) 1)] cw_X6_128 rfl dX6_carries_100 (c_X6_erases l hlf g _ q md ((md 6) 0) ((md 6) 1) hW (by first | assumption | exact hI)) hW.o hM hS hl.1 rfl rfl ⟨Nat.le_of_ble_eq_true rfl, Nat.le_of_ble_eq_true rfl⟩ ⟨Nat.le_of_ble_eq_true rfl, Nat.le_of_ble_eq_true rfl⟩ (Nat.le_of_ble_eq_true rfl) (fun H locs hM hS => ?_)
    have hW := MdAt.put (g := g) (M := M) (m := q) (md := (rsM md (erM (md 0) ((md 6) 0) ((md 6) 1))))
    exact k_zret hc hr dX6_carries_103 hM hS bM_n (Nat.le_of_ble_eq_true rfl) (Nat.le_of_ble_eq_true rfl) (by first | rfl | (simp only [coM, eq_false c_4_98, eq_true c_4_101, eq_self, bM_l, bM_r, rsM_l, rsM_r, seV_l, seV_r, snE_l, snE_r, up1_at, up1_up1, up2_up2, not_false_eq_true, not_true_eq_false, and_true, true_and, and_false, false_and, and_self, ↓reduceIte, or_true, true_or, or_self, or_false, false_or]; done) | (simp only [coM, eq_false c_4_98, eq_true c_4_101, eq_self, bM_l, bM_r, rsM_l, rsM_r, seV_l, seV_r, snE_l, snE_r, up1_at, up1_up1, up2_up2, not_false_eq_true, not_true_eq_false, and_true, true_and, and_false, false_and, and_self, ↓reduceIte, or_true, true_or, or_self, or_false, false_or]; rfl))
  by_cases c_4_108 : (md 7 11) = 108
  · skip
    have e_4 : (md 7 11).toInt = 108 := by rw [c_4_108]; rfl
    refine lv_lookup (off := 133) (tgt := 137) hx hb dX6_carries_4 (by decide) (by rw [e_4]; decide) (by decide) ?_
    refine lv_aload_n hx hb dX6_carries_137 rfl (lv_at hl 0 rfl) ?_
    refine lv_aload_n hx hb dX6_carries_138 rfl (lv_at hl 0 rfl) ?_
    refine gt_X6_29 hc dX6_carries_139 hM hW.o rfl ?_
    refine lv_iconst (v := 0) hx hb dX6_carries_142 (by decide) ?_
    refine k_ialdN hc hM (n := 3) (hW.ar 6 (by decide) (by decide) rfl rfl) (X := 0) rfl (by omega) (by decide) dX6_carries_143 ?_
    refine k_V1 (v := .int (bM (loM (md 0) ((md 6) 0)))) hc [.int ((md 6) 0)] cw_X6_151 rfl dX6_carries_144 (c_X6_looses l hlf g _ q md ((md 6) 0) hW (by first | assumption | exact hI)) hW.o hM hS hl.1 rfl rfl ⟨Nat.le_of_ble_eq_true rfl, Nat.le_of_ble_eq_true rfl⟩ ⟨Nat.le_of_ble_eq_true rfl, Nat.le_of_ble_eq_true rfl⟩ (Nat.le_of_ble_eq_true rfl) (fun H locs hM hS => ?_)
    have hW := MdAt.put (g := g) (M := M) (m := q) (md := (rsM md (loM (md 0) ((md 6) 0))))
    exact k_zret hc hr dX6_carries_147 hM hS bM_n (Nat.le_of_ble_eq_true rfl) (Nat.le_of_ble_eq_true rfl) (by first | rfl | (simp only [coM, eq_false c_4_98, eq_false c_4_101, eq_true c_4_108, eq_self, bM_l, bM_r, rsM_l, rsM_r, seV_l, seV_r, snE_l, snE_r, up1_at, up1_up1, up2_up2, not_false_eq_true, not_true_eq_false, and_true, true_and, and_false, false_and, and_self, ↓reduceIte, or_true, true_or, or_self, or_false, false_or]; done) | (simp only [coM, eq_false c_4_98, eq_false c_4_101, eq_true c_4_108, eq_self, bM_l, bM_r, rsM_l, rsM_r, seV_l, seV_r, snE_l, snE_r, up1_at, up1_up1, up2_up2, not_false_eq_true, not_true_eq_false, and_true, true_and, and_false, false_and, and_self, ↓reduceIte, or_true, true_or, or_self, or_false, false_or]; rfl))
  by_cases c_4_115 : (md 7 11) = 115
  · skip
    have e_4 : (md 7 11).toInt = 115 := by rw [c_4_115]; rfl
    refine lv_lookup (off := 60) (tgt := 64) hx hb dX6_carries_4 (by decide) (by rw [e_4]; decide) (by decide) ?_
    refine lv_aload_n hx hb dX6_carries_64 rfl (lv_at hl 0 rfl) ?_
    refine lv_aload_n hx hb dX6_carries_65 rfl (lv_at hl 0 rfl) ?_
    refine gt_X6_29 hc dX6_carries_66 hM hW.o rfl ?_
    refine lv_iconst (v := 0) hx hb dX6_carries_69 (by decide) ?_
    refine k_ialdN hc hM (n := 3) (hW.ar 6 (by decide) (by decide) rfl rfl) (X := 0) rfl (by omega) (by decide) dX6_carries_70 ?_
    refine lv_aload_n hx hb dX6_carries_71 rfl (lv_at hl 0 rfl) ?_
    refine gt_X6_29 hc dX6_carries_72 hM hW.o rfl ?_
    refine lv_iconst (v := 1) hx hb dX6_carries_75 (by decide) ?_
    refine k_ialdN hc hM (n := 3) (hW.ar 6 (by decide) (by decide) rfl rfl) (X := 1) rfl (by omega) (by decide) dX6_carries_76 ?_
    refine lv_aload_n hx hb dX6_carries_77 rfl (lv_at hl 0 rfl) ?_
    refine gt_X6_29 hc dX6_carries_78 hM hW.o rfl ?_
    refine lv_iconst (v := 2) hx hb dX6_carries_81 (by decide) ?_
    refine k_ialdN hc hM (n := 3) (hW.ar 6 (by decide) (by decide) rfl rfl) (X := 2) rfl (by omega) (by decide) dX6_carries_82 ?_
    refine k_V1 (v := .int (bM (sgM (md 0) ((md 6) 0) ((md 6) 1) ((md 6) 2)))) hc [.int ((md 6) 0), .int ((md 6) 1), .int ((md 6) 2)] cw_X6_122 rfl dX6_carries_83 (c_X6_sights l hlf g _ q md ((md 6) 0) ((md 6) 1) ((md 6) 2) hW (by first | assumption | exact hI) (by first | assumption | exact hL)) hW.o hM hS hl.1 rfl rfl ⟨Nat.le_of_ble_eq_true rfl, Nat.le_of_ble_eq_true rfl⟩ ⟨Nat.le_of_ble_eq_true rfl, Nat.le_of_ble_eq_true rfl⟩ (Nat.le_of_ble_eq_true rfl) (fun H locs hM hS => ?_)
    have hW := MdAt.put (g := g) (M := M) (m := q) (md := (rsM md (sgM (md 0) ((md 6) 0) ((md 6) 1) ((md 6) 2))))
    exact k_zret hc hr dX6_carries_86 hM hS bM_n (Nat.le_of_ble_eq_true rfl) (Nat.le_of_ble_eq_true rfl) (by first | rfl | (simp only [coM, eq_false c_4_98, eq_false c_4_101, eq_false c_4_108, eq_true c_4_115, eq_self, bM_l, bM_r, rsM_l, rsM_r, seV_l, seV_r, snE_l, snE_r, up1_at, up1_up1, up2_up2, not_false_eq_true, not_true_eq_false, and_true, true_and, and_false, false_and, and_self, ↓reduceIte, or_true, true_or, or_self, or_false, false_or]; done) | (simp only [coM, eq_false c_4_98, eq_false c_4_101, eq_false c_4_108, eq_true c_4_115, eq_self, bM_l, bM_r, rsM_l, rsM_r, seV_l, seV_r, snE_l, snE_r, up1_at, up1_up1, up2_up2, not_false_eq_true, not_true_eq_false, and_true, true_and, and_false, false_and, and_self, ↓reduceIte, or_true, true_or, or_self, or_false, false_or]; rfl))
  by_cases c_4_116 : (md 7 11) = 116
  · skip
    have e_4 : (md 7 11).toInt = 116 := by rw [c_4_116]; rfl
    refine lv_lookup (off := 122) (tgt := 126) hx hb dX6_carries_4 (by decide) (by rw [e_4]; decide) (by decide) ?_
    refine lv_aload_n hx hb dX6_carries_126 rfl (lv_at hl 0 rfl) ?_
    refine lv_aload_n hx hb dX6_carries_127 rfl (lv_at hl 0 rfl) ?_
    refine gt_X6_29 hc dX6_carries_128 hM hW.o rfl ?_
    refine lv_iconst (v := 0) hx hb dX6_carries_131 (by decide) ?_
    refine k_ialdN hc hM (n := 3) (hW.ar 6 (by decide) (by decide) rfl rfl) (X := 0) rfl (by omega) (by decide) dX6_carries_132 ?_
    refine k_V1 (v := .int (bM (tiM (md 0) ((md 6) 0)))) hc [.int ((md 6) 0)] cw_X6_148 rfl dX6_carries_133 (c_X6_ties l hlf g _ q md ((md 6) 0) hW (by first | assumption | exact hI)) hW.o hM hS hl.1 rfl rfl ⟨Nat.le_of_ble_eq_true rfl, Nat.le_of_ble_eq_true rfl⟩ ⟨Nat.le_of_ble_eq_true rfl, Nat.le_of_ble_eq_true rfl⟩ (Nat.le_of_ble_eq_true rfl) (fun H locs hM hS => ?_)
    have hW := MdAt.put (g := g) (M := M) (m := q) (md := (rsM md (tiM (md 0) ((md 6) 0))))
    exact k_zret hc hr dX6_carries_136 hM hS bM_n (Nat.le_of_ble_eq_true rfl) (Nat.le_of_ble_eq_true rfl) (by first | rfl | (simp only [coM, eq_false c_4_98, eq_false c_4_101, eq_false c_4_108, eq_false c_4_115, eq_true c_4_116, eq_self, bM_l, bM_r, rsM_l, rsM_r, seV_l, seV_r, snE_l, snE_r, up1_at, up1_up1, up2_up2, not_false_eq_true, not_true_eq_false, and_true, true_and, and_false, false_and, and_self, ↓reduceIte, or_true, true_or, or_self, or_false, false_or]; done) | (simp only [coM, eq_false c_4_98, eq_false c_4_101, eq_false c_4_108, eq_false c_4_115, eq_true c_4_116, eq_self, bM_l, bM_r, rsM_l, rsM_r, seV_l, seV_r, snE_l, snE_r, up1_at, up1_up1, up2_up2, not_false_eq_true, not_true_eq_false, and_true, true_and, and_false, false_and, and_self, ↓reduceIte, or_true, true_or, or_self, or_false, false_or]; rfl))
  by_cases c_4_119 : (md 7 11) = 119
  · skip
    have e_4 : (md 7 11).toInt = 119 := by rw [c_4_119]; rfl
    refine lv_lookup (off := 111) (tgt := 115) hx hb dX6_carries_4 (by decide) (by rw [e_4]; decide) (by decide) ?_
    refine lv_aload_n hx hb dX6_carries_115 rfl (lv_at hl 0 rfl) ?_
    refine lv_aload_n hx hb dX6_carries_116 rfl (lv_at hl 0 rfl) ?_
    refine gt_X6_29 hc dX6_carries_117 hM hW.o rfl ?_
    refine lv_iconst (v := 0) hx hb dX6_carries_120 (by decide) ?_
    refine k_ialdN hc hM (n := 3) (hW.ar 6 (by decide) (by decide) rfl rfl) (X := 0) rfl (by omega) (by decide) dX6_carries_121 ?_
    refine k_V1 (v := .int (bM (paM (md 0) ((md 6) 0)))) hc [.int ((md 6) 0)] cw_X6_157 rfl dX6_carries_122 (c_X6_passes l hlf g _ q md ((md 6) 0) hW (by first | assumption | exact hI)) hW.o hM hS hl.1 rfl rfl ⟨Nat.le_of_ble_eq_true rfl, Nat.le_of_ble_eq_true rfl⟩ ⟨Nat.le_of_ble_eq_true rfl, Nat.le_of_ble_eq_true rfl⟩ (Nat.le_of_ble_eq_true rfl) (fun H locs hM hS => ?_)
    have hW := MdAt.put (g := g) (M := M) (m := q) (md := (rsM md (paM (md 0) ((md 6) 0))))
    exact k_zret hc hr dX6_carries_125 hM hS bM_n (Nat.le_of_ble_eq_true rfl) (Nat.le_of_ble_eq_true rfl) (by first | rfl | (simp only [coM, eq_false c_4_98, eq_false c_4_101, eq_false c_4_108, eq_false c_4_115, eq_false c_4_116, eq_true c_4_119, eq_self, bM_l, bM_r, rsM_l, rsM_r, seV_l, seV_r, snE_l, snE_r, up1_at, up1_up1, up2_up2, not_false_eq_true, not_true_eq_false, and_true, true_and, and_false, false_and, and_self, ↓reduceIte, or_true, true_or, or_self, or_false, false_or]; done) | (simp only [coM, eq_false c_4_98, eq_false c_4_101, eq_false c_4_108, eq_false c_4_115, eq_false c_4_116, eq_true c_4_119, eq_self, bM_l, bM_r, rsM_l, rsM_r, seV_l, seV_r, snE_l, snE_r, up1_at, up1_up1, up2_up2, not_false_eq_true, not_true_eq_false, and_true, true_and, and_false, false_and, and_self, ↓reduceIte, or_true, true_or, or_self, or_false, false_or]; rfl))
  have n98 : ¬ (98 : Int) = (md 7 11).toInt := fun h => c_4_98 (Int32.toInt_inj.mp (h.symm.trans rfl))
  have n101 : ¬ (101 : Int) = (md 7 11).toInt := fun h => c_4_101 (Int32.toInt_inj.mp (h.symm.trans rfl))
  have n108 : ¬ (108 : Int) = (md 7 11).toInt := fun h => c_4_108 (Int32.toInt_inj.mp (h.symm.trans rfl))
  have n115 : ¬ (115 : Int) = (md 7 11).toInt := fun h => c_4_115 (Int32.toInt_inj.mp (h.symm.trans rfl))
  have n116 : ¬ (116 : Int) = (md 7 11).toInt := fun h => c_4_116 (Int32.toInt_inj.mp (h.symm.trans rfl))
  have n119 : ¬ (119 : Int) = (md 7 11).toInt := fun h => c_4_119 (Int32.toInt_inj.mp (h.symm.trans rfl))
  refine lv_lookup (off := 144) (tgt := 148) hx hb dX6_carries_4 (by decide) (by simp [Op.lookupswitch.offset, n98, n101, n108, n115, n116, n119]) (by decide) ?_
  refine lv_aload_n hx hb dX6_carries_148 rfl (lv_at hl 0 rfl) ?_
  refine lv_aload_n hx hb dX6_carries_149 rfl (lv_at hl 0 rfl) ?_
  refine gt_X6_29 hc dX6_carries_150 hM hW.o rfl ?_
  refine lv_iconst (v := 0) hx hb dX6_carries_153 (by decide) ?_
  refine k_ialdN hc hM (n := 3) (hW.ar 6 (by decide) (by decide) rfl rfl) (X := 0) rfl (by omega) (by decide) dX6_carries_154 ?_
  refine k_V1 (v := .int (bM (drM (md 0) ((md 6) 0)))) hc [.int ((md 6) 0)] cw_X6_154 rfl dX6_carries_155 (c_X6_drinks l hlf g _ q md ((md 6) 0) hW (by first | assumption | exact hI)) hW.o hM hS hl.1 rfl rfl ⟨Nat.le_of_ble_eq_true rfl, Nat.le_of_ble_eq_true rfl⟩ ⟨Nat.le_of_ble_eq_true rfl, Nat.le_of_ble_eq_true rfl⟩ (Nat.le_of_ble_eq_true rfl) (fun H locs hM hS => ?_)
  have hW := MdAt.put (g := g) (M := M) (m := q) (md := (rsM md (drM (md 0) ((md 6) 0))))
  exact k_zret hc hr dX6_carries_158 hM hS bM_n (Nat.le_of_ble_eq_true rfl) (Nat.le_of_ble_eq_true rfl) (by first | rfl | (simp only [coM, eq_false c_4_98, eq_false c_4_101, eq_false c_4_108, eq_false c_4_115, eq_false c_4_116, eq_false c_4_119, eq_self, bM_l, bM_r, rsM_l, rsM_r, seV_l, seV_r, snE_l, snE_r, up1_at, up1_up1, up2_up2, not_false_eq_true, not_true_eq_false, and_true, true_and, and_false, false_and, and_self, ↓reduceIte, or_true, true_or, or_self, or_false, false_or]; done) | (simp only [coM, eq_false c_4_98, eq_false c_4_101, eq_false c_4_108, eq_false c_4_115, eq_false c_4_116, eq_false c_4_119, eq_self, bM_l, bM_r, rsM_l, rsM_r, seV_l, seV_r, snE_l, snE_r, up1_at, up1_up1, up2_up2, not_false_eq_true, not_true_eq_false, and_true, true_and, and_false, false_and, and_self, ↓reduceIte, or_true, true_or, or_self, or_false, false_or]; rfl))
