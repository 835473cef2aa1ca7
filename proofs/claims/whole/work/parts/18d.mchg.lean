/-! the reference, a part -/
set_option maxHeartbeats 4000000 in
set_option maxRecDepth 100000 in
theorem c_X6_sights (l : Launch) (hlf : l.stackTraces = false) (g : GC) (M : HM) (q : Nat) (md : FL) (v : Int32) (w : Int32) (u : Int32) (hW : MdAt g M q md) (hI : mOk (md 0)) (hL : leOk (md 0)) : KM g l yX6_sights cX6_sights 6 (some .boolean) 7 0 0 [.ref q, .int v, .int w, .int u] M (.inl (some (.int (bM (sgM (md 0) v w u))), (putD g M q (rsM md (sgM (md 0) v w u))))) := by
  refine k_meth hlf (by decide) (Nat.le_of_ble_eq_true rfl) fun p e s m below meth c ls hc hr hnx hM hS hl => ?_
  have hc : Cx g p l s m [.ref q, .int v, .int w, .int u].toArray meth c cX6_sights 6 RX6 := hc
  have hx := hc.1
  have hb := hc.2.1
  have hl : lv_has ls 6 [(0, .ref q), (1, .int v), (2, .int w), (3, .int u)] := hl
  refine lv_aload_n hx hb dX6_sights_0 rfl (lv_at hl 0 rfl) ?_
  refine lv_iload_n hx hb dX6_sights_1 rfl (lv_at hl 1 rfl) ?_
  refine k_V1 hc [.int v] cw_X6_103 rfl dX6_sights_2 (c_X6_isStake l hlf g _ q md v hW) hW.o hM hS hl.1 rfl rfl ⟨Nat.le_of_ble_eq_true rfl, Nat.le_of_ble_eq_true rfl⟩ ⟨Nat.le_of_ble_eq_true rfl, Nat.le_of_ble_eq_true rfl⟩ (Nat.le_of_ble_eq_true rfl) (fun H locs hM hS => ?_)
  refine lv_if_ne (tgt := 15) hx hb dX6_sights_5 (by decide) (fun c_5 => ?_) (fun c_5 => ?_)
  · skip
    have c_5 := bI_ne.mp c_5
    have ok_5 := isS_ok (f := md 0) hI c_5
    refine lv_aload_n hx hb dX6_sights_15 rfl (lv_at hl 0 rfl) ?_
    refine lv_iload_n hx hb dX6_sights_16 rfl (lv_at hl 2 rfl) ?_
    refine k_V1 hc [.int w] cw_X6_107 rfl dX6_sights_17 (c_X6_isPost l hlf g _ q md w hW) hW.o hM hS hl.1 rfl rfl ⟨Nat.le_of_ble_eq_true rfl, Nat.le_of_ble_eq_true rfl⟩ ⟨Nat.le_of_ble_eq_true rfl, Nat.le_of_ble_eq_true rfl⟩ (Nat.le_of_ble_eq_true rfl) (fun H locs hM hS => ?_)
    refine lv_if_ne (tgt := 30) hx hb dX6_sights_20 (by decide) (fun c_20 => ?_) (fun c_20 => ?_)
    · skip
      have c_20 := bI_ne.mp c_20
      have ok_20 := isP_ok (f := md 0) hI c_20
      refine lv_aload_n hx hb dX6_sights_30 rfl (lv_at hl 0 rfl) ?_
      refine lv_iload_n hx hb dX6_sights_31 rfl (lv_at hl 3 rfl) ?_
      refine k_V1 hc [.int u] cw_X6_110 rfl dX6_sights_32 (c_X6_isSheet l hlf g _ q md u hW) hW.o hM hS hl.1 rfl rfl ⟨Nat.le_of_ble_eq_true rfl, Nat.le_of_ble_eq_true rfl⟩ ⟨Nat.le_of_ble_eq_true rfl, Nat.le_of_ble_eq_true rfl⟩ (Nat.le_of_ble_eq_true rfl) (fun H locs hM hS => ?_)
      refine lv_if_ne (tgt := 45) hx hb dX6_sights_35 (by decide) (fun c_35 => ?_) (fun c_35 => ?_)
      · skip
        have c_35 := bI_ne.mp c_35
        have ok_35 := isH_ok (f := md 0) hI c_35
        refine lv_iconst (v := 0) hx hb dX6_sights_45 (by decide) ?_
        refine lv_istore (lv' := [(4, .int 0), (0, .ref q), (1, .int v), (2, .int w), (3, .int u)]) hx hb dX6_sights_46 hl (by decide) rfl (fun ls hl => ?_)
        have lp_48 : ∀ (D k : Nat), 20 - k < D → k ≤ 20 → (leM (md 0) v w = fnd (fun j => decide (¬ shM (md 0) v w (mHb (md 0) 0 - nI j))) (20 - k) k) → (∀ j, j < k → shM (md 0) v w (mHb (md 0) 0 - nI j)) → ∀ (ls : Array Slot) (H : Heap) (locs : List Loc), hR g M H → va_S (gA g) s.heap H locs → lv_has ls 6 [(4, .int (nI k)), (0, .ref q), (1, .int v), (2, .int w), (3, .int u)] → W p l e (rmOf 7 0 0) s m [.ref q, .int v, .int w, .int u].toArray below meth c H locs 0 0 (vx_MQ below (KQ g (.inl (some (.int (bM (sgM (md 0) v w u))), (putD g M q (rsM md (sgM (md 0) v w u)))))) (KX g (.inl (some (.int (bM (sgM (md 0) v w u))), (putD g M q (rsM md (sgM (md 0) v w u)))))) [.ref q, .int v, .int w, .int u].toArray s 0 0 (gA g)) (F0 m 48 ls []) := by
          intro D
          induction D with
          | zero => intro k hD; exact absurd hD (Nat.not_lt_zero _)
          | succ D ih_48 =>
            intro k hD hk hq hj ls H locs hM hS hl
            refine lv_aload_n hx hb dX6_sights_48 rfl (lv_at hl 1 rfl) ?_
            refine lv_iload_n hx hb dX6_sights_49 rfl (lv_at hl 2 rfl) ?_
            refine lv_iload_n hx hb dX6_sights_50 rfl (lv_at hl 3 rfl) ?_
            refine lv_aload_n hx hb dX6_sights_51 rfl (lv_at hl 1 rfl) ?_
            refine lv_iconst (v := 0) hx hb dX6_sights_52 (by decide) ?_
            refine k_V1 hc [.int 0] cw_X6_88 rfl dX6_sights_53 (c_X6_heatBehind l hlf g _ q md 0 hW) hW.o hM hS hl.1 rfl rfl ⟨Nat.le_of_ble_eq_true rfl, Nat.le_of_ble_eq_true rfl⟩ ⟨Nat.le_of_ble_eq_true rfl, Nat.le_of_ble_eq_true rfl⟩ (Nat.le_of_ble_eq_true rfl) (fun H locs hM hS => ?_)
            refine lv_iload hx hb dX6_sights_56 (lv_at hl 0 rfl) ?_
            refine lv_isub hx hb dX6_sights_58 ?_
            refine k_V1 hc [.int v, .int w, .int ((mHb (md 0) 0) - (nI k))] cw_X6_113 rfl dX6_sights_59 (c_X6_shimmersBy l hlf g _ q md v w ((mHb (md 0) 0) - (nI k)) hW (by first | assumption | decide) (by first | assumption | decide)) hW.o hM hS hl.1 rfl rfl ⟨Nat.le_of_ble_eq_true rfl, Nat.le_of_ble_eq_true rfl⟩ ⟨Nat.le_of_ble_eq_true rfl, Nat.le_of_ble_eq_true rfl⟩ (Nat.le_of_ble_eq_true rfl) (fun H locs hM hS => ?_)
            refine lv_if_eq (tgt := 71) hx hb dX6_sights_62 (by decide) (fun c_62 => ?_) (fun c_62 => ?_)
            · skip
              have c_62 := bI_eq.mp c_62
              have z_4 : (nI k) = (leM (md 0) v w) := (hq.trans (fnd_hit (hL v w ok_5 ok_20 k (by omega) hj) (by simp only [decide_eq_true_eq]; exact c_62))).symm
              have hl := lv_chg (lv_sub hl [0, 1, 2, 3, 4] rfl) z_4
              refine lv_iload hx hb dX6_sights_71 (lv_at hl 0 rfl) ?_
              refine lv_if_le (tgt := 84) hx hb dX6_sights_73 (by decide) (fun c_73 => ?_) (fun c_73 => ?_)
              · skip
                refine lv_aload_n hx hb dX6_sights_84 rfl (lv_at hl 1 rfl) ?_
                refine lv_iload_n hx hb dX6_sights_85 rfl (lv_at hl 2 rfl) ?_
                refine lv_iload_n hx hb dX6_sights_86 rfl (lv_at hl 3 rfl) ?_
                refine k_V1 hc [.int v, .int w] cw_X6_116 rfl dX6_sights_87 (c_X6_seemsFrom l hlf g _ q md v w hW (by first | assumption | decide) (by first | assumption | decide)) hW.o hM hS hl.1 rfl rfl ⟨Nat.le_of_ble_eq_true rfl, Nat.le_of_ble_eq_true rfl⟩ ⟨Nat.le_of_ble_eq_true rfl, Nat.le_of_ble_eq_true rfl⟩ (Nat.le_of_ble_eq_true rfl) (fun H locs hM hS => ?_)
                refine lv_istore (lv' := [(5, .int (seM (md 0) v w)), (4, .int (leM (md 0) v w)), (0, .ref q), (1, .int v), (2, .int w), (3, .int u)]) hx hb dX6_sights_90 hl (by decide) rfl (fun ls hl => ?_)
                refine lv_aload_n hx hb dX6_sights_92 rfl (lv_at hl 2 rfl) ?_
                refine gt_X6_9 hc dX6_sights_93 hM hW.o rfl ?_
                refine lv_bipush (v := 27) hx hb dX6_sights_96 (by decide) ?_
                refine lv_bipush (v := 10) hx hb dX6_sights_98 (by decide) ?_
                refine lv_iload_n hx hb dX6_sights_100 rfl (lv_at hl 5 rfl) ?_
                refine lv_imul hx hb dX6_sights_101 ?_
                refine lv_iadd hx hb dX6_sights_102 ?_
                refine lv_iload_n hx hb dX6_sights_103 rfl (lv_at hl 3 rfl) ?_
                refine lv_iadd hx hb dX6_sights_104 ?_
                refine lv_iload hx hb dX6_sights_105 (lv_at hl 0 rfl) ?_
                refine lv_iconst (v := 1) hx hb dX6_sights_107 (by decide) ?_
                refine lv_iadd hx hb dX6_sights_108 ?_
                refine k_iast hc hM hS (hW.ar 0 (by decide) (by decide) rfl rfl) (inD (by assumption) (by assumption)) dX6_sights_109 (fun H locs hM hS => ?_)
                have hM := hR.eq hM (putD_ar hW 0 (by decide) (by decide) rfl rfl)
                have hW := MdAt.put (g := g) (M := M) (m := q) (md := (up1 md 0 (upd (md 0) (((27 + (10 * u)) + v).toNatClampNeg) ((seM (md 0) v w) + 1))))
                refine lv_aload_n hx hb dX6_sights_110 rfl (lv_at hl 2 rfl) ?_
                refine gt_X6_9 hc dX6_sights_111 hM hW.o rfl ?_
                refine lv_bipush (v := 8) hx hb dX6_sights_114 (by decide) ?_
                refine lv_dup2_11 hx hb dX6_sights_116 rfl rfl ?_
                refine k_ialdN hc hM (n := 81) (hW.ar 0 (by decide) (by decide) rfl rfl) (X := 8) rfl (by omega) (by decide) dX6_sights_117 ?_
                refine lv_iconst (v := 1) hx hb dX6_sights_118 (by decide) ?_
                refine lv_iadd hx hb dX6_sights_119 ?_
                refine k_iastN hc hM hS (n := 81) (hW.ar 0 (by decide) (by decide) rfl rfl) (X := 8) rfl (by omega) (by decide) dX6_sights_120 (fun H locs hM hS => ?_)
                have hM := hR.eq hM (putD_ar hW 0 (by decide) (by decide) rfl rfl)
                have hM := hR.eq hM putD_putD
                have hW := MdAt.put (g := g) (M := M) (m := q) (md := (up1 (up1 md 0 (upd (md 0) (((27 + (10 * u)) + v).toNatClampNeg) ((seM (md 0) v w) + 1))) 0 (upd ((up1 md 0 (upd (md 0) (((27 + (10 * u)) + v).toNatClampNeg) ((seM (md 0) v w) + 1))) 0) 8 ((((up1 md 0 (upd (md 0) (((27 + (10 * u)) + v).toNatClampNeg) ((seM (md 0) v w) + 1))) 0) 8) + 1))))
                refine lv_aload_n hx hb dX6_sights_121 rfl (lv_at hl 2 rfl) ?_
                refine lv_iload hx hb dX6_sights_122 (lv_at hl 0 rfl) ?_
                refine k_V1 hc [.int (seM (md 0) v w)] cw_X6_119 rfl dX6_sights_124 (c_X6_does l hlf g _ q (up1 (up1 md 0 (upd (md 0) (((27 + (10 * u)) + v).toNatClampNeg) ((seM (md 0) v w) + 1))) 0 (upd ((up1 md 0 (upd (md 0) (((27 + (10 * u)) + v).toNatClampNeg) ((seM (md 0) v w) + 1))) 0) 8 ((((up1 md 0 (upd (md 0) (((27 + (10 * u)) + v).toNatClampNeg) ((seM (md 0) v w) + 1))) 0) 8) + 1))) (seM (md 0) v w) hW) hW.o hM hS hl.1 rfl rfl ⟨Nat.le_of_ble_eq_true rfl, Nat.le_of_ble_eq_true rfl⟩ ⟨Nat.le_of_ble_eq_true rfl, Nat.le_of_ble_eq_true rfl⟩ (Nat.le_of_ble_eq_true rfl) (fun H locs hM hS => ?_)
                have hM := hR.eq hM putD_putD
                have hW := MdAt.put (g := g) (M := M) (m := q) (md := (up2 (up1 (up1 md 0 (upd (md 0) (((27 + (10 * u)) + v).toNatClampNeg) ((seM (md 0) v w) + 1))) 0 (upd ((up1 md 0 (upd (md 0) (((27 + (10 * u)) + v).toNatClampNeg) ((seM (md 0) v w) + 1))) 0) 8 ((((up1 md 0 (upd (md 0) (((27 + (10 * u)) + v).toNatClampNeg) ((seM (md 0) v w) + 1))) 0) 8) + 1))) 7 18 (seM (md 0) v w)))
                exact k_zret hc hr dX6_sights_127 hM hS (by first | rfl | exact bI_n) (Nat.le_of_ble_eq_true rfl) (Nat.le_of_ble_eq_true rfl) (by first | rfl | (simp only [sgM, sgF2, dwF, eq_true c_5, eq_true c_20, eq_true c_35, eq_false c_62, eq_true c_73, eq_self, bM_l, bM_r, rsM_l, rsM_r, seV_l, seV_r, snE_l, snE_r, up1_at, up1_up1, up2_up2, not_false_eq_true, not_true_eq_false, and_true, true_and, and_false, false_and, and_self, ↓reduceIte, or_true, true_or, or_self, or_false, false_or]; done) | (simp only [sgM, sgF2, dwF, eq_true c_5, eq_true c_20, eq_true c_35, eq_false c_62, eq_true c_73, eq_self, bM_l, bM_r, rsM_l, rsM_r, seV_l, seV_r, snE_l, snE_r, up1_at, up1_up1, up2_up2, not_false_eq_true, not_true_eq_false, and_true, true_and, and_false, false_and, and_self, ↓reduceIte, or_true, true_or, or_self, or_false, false_or]; rfl))
              · skip
                refine lv_aload_n hx hb dX6_sights_76 rfl (lv_at hl 1 rfl) ?_
                refine lv_iconst (v := 5) hx hb dX6_sights_77 (by decide) ?_
                refine lv_iload hx hb dX6_sights_78 (lv_at hl 0 rfl) ?_
                refine k_V1 hc [.int 5, .int (leM (md 0) v w)] cw_X6_80 rfl dX6_sights_80 (c_X6_refuses l hlf g _ q md 5 (leM (md 0) v w) hW) hW.o hM hS hl.1 rfl rfl ⟨Nat.le_of_ble_eq_true rfl, Nat.le_of_ble_eq_true rfl⟩ ⟨Nat.le_of_ble_eq_true rfl, Nat.le_of_ble_eq_true rfl⟩ (Nat.le_of_ble_eq_true rfl) (fun H locs hM hS => ?_)
                have hW := MdAt.put (g := g) (M := M) (m := q) (md := (rfM md 5 (leM (md 0) v w)))
                exact k_zret hc hr dX6_sights_83 hM hS (by first | rfl | exact bI_n) (Nat.le_of_ble_eq_true rfl) (Nat.le_of_ble_eq_true rfl) (by first | rfl | (simp only [sgM, sgF2, dwF, eq_true c_5, eq_true c_20, eq_true c_35, eq_false c_62, eq_false c_73, eq_self, bM_l, bM_r, rsM_l, rsM_r, seV_l, seV_r, snE_l, snE_r, up1_at, up1_up1, up2_up2, not_false_eq_true, not_true_eq_false, and_true, true_and, and_false, false_and, and_self, ↓reduceIte, or_true, true_or, or_self, or_false, false_or]; done) | (simp only [sgM, sgF2, dwF, eq_true c_5, eq_true c_20, eq_true c_35, eq_false c_62, eq_false c_73, eq_self, bM_l, bM_r, rsM_l, rsM_r, seV_l, seV_r, snE_l, snE_r, up1_at, up1_up1, up2_up2, not_false_eq_true, not_true_eq_false, and_true, true_and, and_false, false_and, and_self, ↓reduceIte, or_true, true_or, or_self, or_false, false_or]; rfl))
            · skip
              have c_62 := bI_ne.mp c_62
              refine lv_iinc (v := (nI (k + 1))) (lv' := [(4, .int (nI (k + 1))), (0, .ref q), (1, .int v), (2, .int w), (3, .int u)]) hx hb dX6_sights_65 hl (k := 0) rfl (k_inc1 _) (by decide) rfl (fun ls hl => ?_)
              refine lv_goto (tgt := 48) hx hb dX6_sights_68 (by decide) ?_
              exact ih_48 (k + 1) (by have := hL v w ok_5 ok_20 k (by omega) hj; omega) (by have := hL v w ok_5 ok_20 k (by omega) hj; omega) (hq.trans (fnd_next (hL v w ok_5 ok_20 k (by omega) hj) (by simp only [decide_eq_true_eq]; exact fun hh => hh c_62))) (fun j hj2 => (Nat.lt_or_ge j k).elim (fun z => hj j z) (fun z => by rw [show j = k by omega]; exact c_62)) ls _ _ hM hS (lv_sub hl [0, 1, 2, 3, 4] rfl)
        have z_4 : 0 = (nI 0) := rfl
        have hl := lv_chg (lv_sub hl [0, 1, 2, 3, 4] rfl) z_4
        exact lp_48 (20 + 1) 0 (by omega) (by omega) rfl (fun j hj => absurd hj (by omega)) ls _ _ hM hS (lv_sub hl [0, 1, 2, 3, 4] rfl)
      · skip
        have c_35 := bI_eq.mp c_35
        refine lv_aload_n hx hb dX6_sights_38 rfl (lv_at hl 0 rfl) ?_
        refine lv_iconst (v := 3) hx hb dX6_sights_39 (by decide) ?_
        refine lv_iload_n hx hb dX6_sights_40 rfl (lv_at hl 3 rfl) ?_
        refine k_V1 hc [.int 3, .int u] cw_X6_80 rfl dX6_sights_41 (c_X6_refuses l hlf g _ q md 3 u hW) hW.o hM hS hl.1 rfl rfl ⟨Nat.le_of_ble_eq_true rfl, Nat.le_of_ble_eq_true rfl⟩ ⟨Nat.le_of_ble_eq_true rfl, Nat.le_of_ble_eq_true rfl⟩ (Nat.le_of_ble_eq_true rfl) (fun H locs hM hS => ?_)
        have hW := MdAt.put (g := g) (M := M) (m := q) (md := (rfM md 3 u))
        exact k_zret hc hr dX6_sights_44 hM hS (by first | rfl | exact bI_n) (Nat.le_of_ble_eq_true rfl) (Nat.le_of_ble_eq_true rfl) (by first | rfl | (simp only [sgM, sgF2, dwF, eq_true c_5, eq_true c_20, eq_false c_35, eq_self, bM_l, bM_r, rsM_l, rsM_r, seV_l, seV_r, snE_l, snE_r, up1_at, up1_up1, up2_up2, not_false_eq_true, not_true_eq_false, and_true, true_and, and_false, false_and, and_self, ↓reduceIte, or_true, true_or, or_self, or_false, false_or]; done) | (simp only [sgM, sgF2, dwF, eq_true c_5, eq_true c_20, eq_false c_35, eq_self, bM_l, bM_r, rsM_l, rsM_r, seV_l, seV_r, snE_l, snE_r, up1_at, up1_up1, up2_up2, not_false_eq_true, not_true_eq_false, and_true, true_and, and_false, false_and, and_self, ↓reduceIte, or_true, true_or, or_self, or_false, false_or]; rfl))
    · skip
      have c_20 := bI_eq.mp c_20
      refine lv_aload_n hx hb dX6_sights_23 rfl (lv_at hl 0 rfl) ?_
      refine lv_iconst (v := 3) hx hb dX6_sights_24 (by decide) ?_
      refine lv_iload_n hx hb dX6_sights_25 rfl (lv_at hl 2 rfl) ?_
      refine k_V1 hc [.int 3, .int w] cw_X6_80 rfl dX6_sights_26 (c_X6_refuses l hlf g _ q md 3 w hW) hW.o hM hS hl.1 rfl rfl ⟨Nat.le_of_ble_eq_true rfl, Nat.le_of_ble_eq_true rfl⟩ ⟨Nat.le_of_ble_eq_true rfl, Nat.le_of_ble_eq_true rfl⟩ (Nat.le_of_ble_eq_true rfl) (fun H locs hM hS => ?_)
      have hW := MdAt.put (g := g) (M := M) (m := q) (md := (rfM md 3 w))
      exact k_zret hc hr dX6_sights_29 hM hS (by first | rfl | exact bI_n) (Nat.le_of_ble_eq_true rfl) (Nat.le_of_ble_eq_true rfl) (by first | rfl | (simp only [sgM, sgF2, dwF, eq_true c_5, eq_false c_20, eq_self, bM_l, bM_r, rsM_l, rsM_r, seV_l, seV_r, snE_l, snE_r, up1_at, up1_up1, up2_up2, not_false_eq_true, not_true_eq_false, and_true, true_and, and_false, false_and, and_self, ↓reduceIte, or_true, true_or, or_self, or_false, false_or]; done) | (simp only [sgM, sgF2, dwF, eq_true c_5, eq_false c_20, eq_self, bM_l, bM_r, rsM_l, rsM_r, seV_l, seV_r, snE_l, snE_r, up1_at, up1_up1, up2_up2, not_false_eq_true, not_true_eq_false, and_true, true_and, and_false, false_and, and_self, ↓reduceIte, or_true, true_or, or_self, or_false, false_or]; rfl))
  · skip
    have c_5 := bI_eq.mp c_5
    refine lv_aload_n hx hb dX6_sights_8 rfl (lv_at hl 0 rfl) ?_
    refine lv_iconst (v := 3) hx hb dX6_sights_9 (by decide) ?_
    refine lv_iload_n hx hb dX6_sights_10 rfl (lv_at hl 1 rfl) ?_
    refine k_V1 hc [.int 3, .int v] cw_X6_80 rfl dX6_sights_11 (c_X6_refuses l hlf g _ q md 3 v hW) hW.o hM hS hl.1 rfl rfl ⟨Nat.le_of_ble_eq_true rfl, Nat.le_of_ble_eq_true rfl⟩ ⟨Nat.le_of_ble_eq_true rfl, Nat.le_of_ble_eq_true rfl⟩ (Nat.le_of_ble_eq_true rfl) (fun H locs hM hS => ?_)
    have hW := MdAt.put (g := g) (M := M) (m := q) (md := (rfM md 3 v))
    exact k_zret hc hr dX6_sights_14 hM hS (by first | rfl | exact bI_n) (Nat.le_of_ble_eq_true rfl) (Nat.le_of_ble_eq_true rfl) (by first | rfl | (simp only [sgM, sgF2, dwF, eq_false c_5, eq_self, bM_l, bM_r, rsM_l, rsM_r, seV_l, seV_r, snE_l, snE_r, up1_at, up1_up1, up2_up2, not_false_eq_true, not_true_eq_false, and_true, true_and, and_false, false_and, and_self, ↓reduceIte, or_true, true_or, or_self, or_false, false_or]; done) | (simp only [sgM, sgF2, dwF, eq_false c_5, eq_self, bM_l, bM_r, rsM_l, rsM_r, seV_l, seV_r, snE_l, snE_r, up1_at, up1_up1, up2_up2, not_false_eq_true, not_true_eq_false, and_true, true_and, and_false, false_and, and_self, ↓reduceIte, or_true, true_or, or_self, or_false, false_or]; rfl))
set_option maxHeartbeats 4000000 in
set_option maxRecDepth 100000 in
theorem c_X6_erases (l : Launch) (hlf : l.stackTraces = false) (g : GC) (M : HM) (q : Nat) (md : FL) (v : Int32) (w : Int32) (hW : MdAt g M q md) (hI : mOk (md 0)) : KM g l yX6_erases cX6_erases 4 (some .boolean) 3 0 0 [.ref q, .int v, .int w] M (.inl (some (.int (bM (erM (md 0) v w))), (putD g M q (rsM md (erM (md 0) v w))))) := by
  refine k_meth hlf (by decide) (Nat.le_of_ble_eq_true rfl) fun p e s m below meth c ls hc hr hnx hM hS hl => ?_
  have hc : Cx g p l s m [.ref q, .int v, .int w].toArray meth c cX6_erases 4 RX6 := hc
  have hx := hc.1
  have hb := hc.2.1
  have hl : lv_has ls 4 [(0, .ref q), (1, .int v), (2, .int w)] := hl
  refine lv_aload_n hx hb dX6_erases_0 rfl (lv_at hl 0 rfl) ?_
  refine lv_iload_n hx hb dX6_erases_1 rfl (lv_at hl 1 rfl) ?_
  refine k_V1 hc [.int v] cw_X6_103 rfl dX6_erases_2 (c_X6_isStake l hlf g _ q md v hW) hW.o hM hS hl.1 rfl rfl ⟨Nat.le_of_ble_eq_true rfl, Nat.le_of_ble_eq_true rfl⟩ ⟨Nat.le_of_ble_eq_true rfl, Nat.le_of_ble_eq_true rfl⟩ (Nat.le_of_ble_eq_true rfl) (fun H locs hM hS => ?_)
  refine lv_if_ne (tgt := 15) hx hb dX6_erases_5 (by decide) (fun c_5 => ?_) (fun c_5 => ?_)
  · skip
    have c_5 := bI_ne.mp c_5
    have ok_5 := isS_ok (f := md 0) hI c_5
    refine lv_aload_n hx hb dX6_erases_15 rfl (lv_at hl 0 rfl) ?_
    refine lv_iload_n hx hb dX6_erases_16 rfl (lv_at hl 2 rfl) ?_
    refine k_V1 hc [.int w] cw_X6_110 rfl dX6_erases_17 (c_X6_isSheet l hlf g _ q md w hW) hW.o hM hS hl.1 rfl rfl ⟨Nat.le_of_ble_eq_true rfl, Nat.le_of_ble_eq_true rfl⟩ ⟨Nat.le_of_ble_eq_true rfl, Nat.le_of_ble_eq_true rfl⟩ (Nat.le_of_ble_eq_true rfl) (fun H locs hM hS => ?_)
    refine lv_if_ne (tgt := 30) hx hb dX6_erases_20 (by decide) (fun c_20 => ?_) (fun c_20 => ?_)
    · skip
      have c_20 := bI_ne.mp c_20
      have ok_20 := isH_ok (f := md 0) hI c_20
      refine lv_aload_n hx hb dX6_erases_30 rfl (lv_at hl 0 rfl) ?_
      refine lv_iload_n hx hb dX6_erases_31 rfl (lv_at hl 1 rfl) ?_
      refine lv_iload_n hx hb dX6_erases_32 rfl (lv_at hl 2 rfl) ?_
      refine k_V1 hc [.int v, .int w] cw_X6_125 rfl dX6_erases_33 (c_X6_drawn l hlf g _ q md v w hW (by first | assumption | decide) (by first | assumption | decide)) hW.o hM hS hl.1 rfl rfl ⟨Nat.le_of_ble_eq_true rfl, Nat.le_of_ble_eq_true rfl⟩ ⟨Nat.le_of_ble_eq_true rfl, Nat.le_of_ble_eq_true rfl⟩ (Nat.le_of_ble_eq_true rfl) (fun H locs hM hS => ?_)
      refine lv_istore_n (lv' := [(3, .int (mD (md 0) v w)), (0, .ref q), (1, .int v), (2, .int w)]) hx hb dX6_erases_36 rfl hl (by decide) rfl (fun ls hl => ?_)
      refine lv_iload_n hx hb dX6_erases_37 rfl (lv_at hl 0 rfl) ?_
      refine lv_if_ge (tgt := 49) hx hb dX6_erases_38 (by decide) (fun c_38 => ?_) (fun c_38 => ?_)
      · skip
        refine lv_aload_n hx hb dX6_erases_49 rfl (lv_at hl 1 rfl) ?_
        refine gt_X6_9 hc dX6_erases_50 hM hW.o rfl ?_
        refine lv_bipush (v := 27) hx hb dX6_erases_53 (by decide) ?_
        refine lv_bipush (v := 10) hx hb dX6_erases_55 (by decide) ?_
        refine lv_iload_n hx hb dX6_erases_57 rfl (lv_at hl 3 rfl) ?_
        refine lv_imul hx hb dX6_erases_58 ?_
        refine lv_iadd hx hb dX6_erases_59 ?_
        refine lv_iload_n hx hb dX6_erases_60 rfl (lv_at hl 2 rfl) ?_
        refine lv_iadd hx hb dX6_erases_61 ?_
        refine lv_iconst (v := 0) hx hb dX6_erases_62 (by decide) ?_
        refine k_iast hc hM hS (hW.ar 0 (by decide) (by decide) rfl rfl) (inD (by assumption) (by assumption)) dX6_erases_63 (fun H locs hM hS => ?_)
        have hM := hR.eq hM (putD_ar hW 0 (by decide) (by decide) rfl rfl)
        have hW := MdAt.put (g := g) (M := M) (m := q) (md := (up1 md 0 (upd (md 0) (((27 + (10 * w)) + v).toNatClampNeg) 0)))
        refine lv_aload_n hx hb dX6_erases_64 rfl (lv_at hl 1 rfl) ?_
        refine lv_iload_n hx hb dX6_erases_65 rfl (lv_at hl 0 rfl) ?_
        refine k_V1 hc [.int (mD (md 0) v w)] cw_X6_119 rfl dX6_erases_66 (c_X6_does l hlf g _ q (up1 md 0 (upd (md 0) (((27 + (10 * w)) + v).toNatClampNeg) 0)) (mD (md 0) v w) hW) hW.o hM hS hl.1 rfl rfl ⟨Nat.le_of_ble_eq_true rfl, Nat.le_of_ble_eq_true rfl⟩ ⟨Nat.le_of_ble_eq_true rfl, Nat.le_of_ble_eq_true rfl⟩ (Nat.le_of_ble_eq_true rfl) (fun H locs hM hS => ?_)
        have hM := hR.eq hM putD_putD
        have hW := MdAt.put (g := g) (M := M) (m := q) (md := (up2 (up1 md 0 (upd (md 0) (((27 + (10 * w)) + v).toNatClampNeg) 0)) 7 18 (mD (md 0) v w)))
        exact k_zret hc hr dX6_erases_69 hM hS (by first | rfl | exact bI_n) (Nat.le_of_ble_eq_true rfl) (Nat.le_of_ble_eq_true rfl) (by first | rfl | (simp only [erM, dwF, eq_true c_5, eq_true c_20, eq_true c_38, eq_self, bM_l, bM_r, rsM_l, rsM_r, seV_l, seV_r, snE_l, snE_r, up1_at, up1_up1, up2_up2, not_false_eq_true, not_true_eq_false, and_true, true_and, and_false, false_and, and_self, ↓reduceIte, or_true, true_or, or_self, or_false, false_or]; done) | (simp only [erM, dwF, eq_true c_5, eq_true c_20, eq_true c_38, eq_self, bM_l, bM_r, rsM_l, rsM_r, seV_l, seV_r, snE_l, snE_r, up1_at, up1_up1, up2_up2, not_false_eq_true, not_true_eq_false, and_true, true_and, and_false, false_and, and_self, ↓reduceIte, or_true, true_or, or_self, or_false, false_or]; rfl))
      · skip
        refine lv_aload_n hx hb dX6_erases_41 rfl (lv_at hl 1 rfl) ?_
        refine lv_bipush (v := 6) hx hb dX6_erases_42 (by decide) ?_
        refine lv_iload_n hx hb dX6_erases_44 rfl (lv_at hl 2 rfl) ?_
        refine k_V1 hc [.int 6, .int v] cw_X6_80 rfl dX6_erases_45 (c_X6_refuses l hlf g _ q md 6 v hW) hW.o hM hS hl.1 rfl rfl ⟨Nat.le_of_ble_eq_true rfl, Nat.le_of_ble_eq_true rfl⟩ ⟨Nat.le_of_ble_eq_true rfl, Nat.le_of_ble_eq_true rfl⟩ (Nat.le_of_ble_eq_true rfl) (fun H locs hM hS => ?_)
        have hW := MdAt.put (g := g) (M := M) (m := q) (md := (rfM md 6 v))
        exact k_zret hc hr dX6_erases_48 hM hS (by first | rfl | exact bI_n) (Nat.le_of_ble_eq_true rfl) (Nat.le_of_ble_eq_true rfl) (by first | rfl | (simp only [erM, dwF, eq_true c_5, eq_true c_20, eq_false c_38, eq_self, bM_l, bM_r, rsM_l, rsM_r, seV_l, seV_r, snE_l, snE_r, up1_at, up1_up1, up2_up2, not_false_eq_true, not_true_eq_false, and_true, true_and, and_false, false_and, and_self, ↓reduceIte, or_true, true_or, or_self, or_false, false_or]; done) | (simp only [erM, dwF, eq_true c_5, eq_true c_20, eq_false c_38, eq_self, bM_l, bM_r, rsM_l, rsM_r, seV_l, seV_r, snE_l, snE_r, up1_at, up1_up1, up2_up2, not_false_eq_true, not_true_eq_false, and_true, true_and, and_false, false_and, and_self, ↓reduceIte, or_true, true_or, or_self, or_false, false_or]; rfl))
    · skip
      have c_20 := bI_eq.mp c_20
      refine lv_aload_n hx hb dX6_erases_23 rfl (lv_at hl 0 rfl) ?_
      refine lv_iconst (v := 3) hx hb dX6_erases_24 (by decide) ?_
      refine lv_iload_n hx hb dX6_erases_25 rfl (lv_at hl 2 rfl) ?_
      refine k_V1 hc [.int 3, .int w] cw_X6_80 rfl dX6_erases_26 (c_X6_refuses l hlf g _ q md 3 w hW) hW.o hM hS hl.1 rfl rfl ⟨Nat.le_of_ble_eq_true rfl, Nat.le_of_ble_eq_true rfl⟩ ⟨Nat.le_of_ble_eq_true rfl, Nat.le_of_ble_eq_true rfl⟩ (Nat.le_of_ble_eq_true rfl) (fun H locs hM hS => ?_)
      have hW := MdAt.put (g := g) (M := M) (m := q) (md := (rfM md 3 w))
      exact k_zret hc hr dX6_erases_29 hM hS (by first | rfl | exact bI_n) (Nat.le_of_ble_eq_true rfl) (Nat.le_of_ble_eq_true rfl) (by first | rfl | (simp only [erM, dwF, eq_true c_5, eq_false c_20, eq_self, bM_l, bM_r, rsM_l, rsM_r, seV_l, seV_r, snE_l, snE_r, up1_at, up1_up1, up2_up2, not_false_eq_true, not_true_eq_false, and_true, true_and, and_false, false_and, and_self, ↓reduceIte, or_true, true_or, or_self, or_false, false_or]; done) | (simp only [erM, dwF, eq_true c_5, eq_false c_20, eq_self, bM_l, bM_r, rsM_l, rsM_r, seV_l, seV_r, snE_l, snE_r, up1_at, up1_up1, up2_up2, not_false_eq_true, not_true_eq_false, and_true, true_and, and_false, false_and, and_self, ↓reduceIte, or_true, true_or, or_self, or_false, false_or]; rfl))
  · skip
    have c_5 := bI_eq.mp c_5
    refine lv_aload_n hx hb dX6_erases_8 rfl (lv_at hl 0 rfl) ?_
    refine lv_iconst (v := 3) hx hb dX6_erases_9 (by decide) ?_
    refine lv_iload_n hx hb dX6_erases_10 rfl (lv_at hl 1 rfl) ?_
    refine k_V1 hc [.int 3, .int v] cw_X6_80 rfl dX6_erases_11 (c_X6_refuses l hlf g _ q md 3 v hW) hW.o hM hS hl.1 rfl rfl ⟨Nat.le_of_ble_eq_true rfl, Nat.le_of_ble_eq_true rfl⟩ ⟨Nat.le_of_ble_eq_true rfl, Nat.le_of_ble_eq_true rfl⟩ (Nat.le_of_ble_eq_true rfl) (fun H locs hM hS => ?_)
    have hW := MdAt.put (g := g) (M := M) (m := q) (md := (rfM md 3 v))
    exact k_zret hc hr dX6_erases_14 hM hS (by first | rfl | exact bI_n) (Nat.le_of_ble_eq_true rfl) (Nat.le_of_ble_eq_true rfl) (by first | rfl | (simp only [erM, dwF, eq_false c_5, eq_self, bM_l, bM_r, rsM_l, rsM_r, seV_l, seV_r, snE_l, snE_r, up1_at, up1_up1, up2_up2, not_false_eq_true, not_true_eq_false, and_true, true_and, and_false, false_and, and_self, ↓reduceIte, or_true, true_or, or_self, or_false, false_or]; done) | (simp only [erM, dwF, eq_false c_5, eq_self, bM_l, bM_r, rsM_l, rsM_r, seV_l, seV_r, snE_l, snE_r, up1_at, up1_up1, up2_up2, not_false_eq_true, not_true_eq_false, and_true, true_and, and_false, false_and, and_self, ↓reduceIte, or_true, true_or, or_self, or_false, false_or]; rfl))
set_option maxHeartbeats 4000000 in
set_option maxRecDepth 100000 in
theorem c_X6_rings (l : Launch) (hlf : l.stackTraces = false) (g : GC) (M : HM) (q : Nat) (md : FL) (v : Int32) (hW : MdAt g M q md) (hI : mOk (md 0)) : KM g l yX6_rings cX6_rings 6 (some .boolean) 6 0 0 [.ref q, .int v] M (.inl (some (.int (bM (riM (md 0) v))), (putD g M q (rsM md (riM (md 0) v))))) := by
  refine k_meth hlf (by decide) (Nat.le_of_ble_eq_true rfl) fun p e s m below meth c ls hc hr hnx hM hS hl => ?_
  have hc : Cx g p l s m [.ref q, .int v].toArray meth c cX6_rings 6 RX6 := hc
  have hx := hc.1
  have hb := hc.2.1
  have hl : lv_has ls 6 [(0, .ref q), (1, .int v)] := hl
  refine lv_iload_n hx hb dX6_rings_0 rfl (lv_at hl 1 rfl) ?_
  refine lv_iconst (v := 0) hx hb dX6_rings_1 (by decide) ?_
  refine lv_bipush (v := 99) hx hb dX6_rings_2 (by decide) ?_
  refine k_S1 hc [.int v, .int 0, .int 99] cw_X6_64 dX6_rings_4 (c_X6_in l hlf g _ v 0 99) hM hS hl.1 rfl rfl ⟨Nat.le_of_ble_eq_true rfl, Nat.le_of_ble_eq_true rfl⟩ ⟨Nat.le_of_ble_eq_true rfl, Nat.le_of_ble_eq_true rfl⟩ (Nat.le_of_ble_eq_true rfl) (fun H locs hM hS => ?_)
  refine lv_if_ne (tgt := 17) hx hb dX6_rings_7 (by decide) (fun c_7 => ?_) (fun c_7 => ?_)
  · skip
    have c_7 := bI_ne.mp c_7
    refine lv_iconst (v := 0) hx hb dX6_rings_17 (by decide) ?_
    refine lv_istore_n (lv' := [(2, .int 0), (0, .ref q), (1, .int v)]) hx hb dX6_rings_18 rfl hl (by decide) rfl (fun ls hl => ?_)
    refine lv_iconst (v := 0) hx hb dX6_rings_19 (by decide) ?_
    refine lv_istore_n (lv' := [(3, .int 0), (2, .int 0), (0, .ref q), (1, .int v)]) hx hb dX6_rings_20 rfl hl (by decide) rfl (fun ls hl => ?_)
    have lp_21 : ∀ (D k : Nat), ((md 0 5).toNatClampNeg) - k < D → k ≤ (md 0 5).toNatClampNeg → ∀ (ls : Array Slot) (H : Heap) (locs : List Loc), hR g (putD g M q (up1 md 0 (itr (riS v) (0, (md 0)) k).2)) H → va_S (gA g) s.heap H locs → lv_has ls 6 [(3, .int (nI k)), (2, .int (itr (riS v) (0, (md 0)) k).1), (0, .ref q), (1, .int v)] → W p l e (rmOf 6 0 0) s m [.ref q, .int v].toArray below meth c H locs 0 0 (vx_MQ below (KQ g (.inl (some (.int (bM (riM (md 0) v))), (putD g M q (rsM md (riM (md 0) v)))))) (KX g (.inl (some (.int (bM (riM (md 0) v))), (putD g M q (rsM md (riM (md 0) v)))))) [.ref q, .int v].toArray s 0 0 (gA g)) (F0 m 21 ls []) := by
      intro D
      induction D with
      | zero => intro k hD; exact absurd hD (Nat.not_lt_zero _)
      | succ D ih_21 =>
        intro k hD hk ls H locs hM hS hl
        have hW := MdAt.put (g := g) (M := M) (m := q) (md := (up1 md 0 (itr (riS v) (0, (md 0)) k).2))
        refine lv_iload_n hx hb dX6_rings_21 rfl (lv_at hl 0 rfl) ?_
        refine lv_aload_n hx hb dX6_rings_22 rfl (lv_at hl 2 rfl) ?_
        refine gt_X6_9 hc dX6_rings_23 hM hW.o rfl ?_
        refine lv_iconst (v := 5) hx hb dX6_rings_26 (by decide) ?_
        refine k_ialdN hc hM (n := 81) (hW.ar 0 (by decide) (by decide) rfl rfl) (X := 5) rfl (by omega) (by decide) dX6_rings_27 ?_
        refine lv_icmp_ge (tgt := 132) hx hb dX6_rings_28 (by decide) (fun c_28 => ?_) (fun c_28 => ?_)
        · skip
          rw [up1_at, ri_lo (by have := clamp6 (x := md 0 5) hI.2.2.2; omega) (by decide)] at c_28
          have c_28 := (k_le (by have := k_clamp_lt (md 0 5); omega)).mp c_28
          refine lv_aload_n hx hb dX6_rings_132 rfl (lv_at hl 2 rfl) ?_
          refine lv_iload_n hx hb dX6_rings_133 rfl (lv_at hl 1 rfl) ?_
          refine k_V1 hc [.int (itr (riS v) (0, (md 0)) k).1] cw_X6_119 rfl dX6_rings_134 (c_X6_does l hlf g _ q (up1 md 0 (itr (riS v) (0, (md 0)) k).2) ((itr (riS v) (0, (md 0)) k).1) hW) hW.o hM hS hl.1 rfl rfl ⟨Nat.le_of_ble_eq_true rfl, Nat.le_of_ble_eq_true rfl⟩ ⟨Nat.le_of_ble_eq_true rfl, Nat.le_of_ble_eq_true rfl⟩ (Nat.le_of_ble_eq_true rfl) (fun H locs hM hS => ?_)
          have hM := hR.eq hM putD_putD
          have hW := MdAt.put (g := g) (M := M) (m := q) (md := (up2 (up1 md 0 (itr (riS v) (0, (md 0)) k).2) 7 18 ((itr (riS v) (0, (md 0)) k).1)))
          exact k_zret hc hr dX6_rings_137 hM hS (by first | rfl | exact bI_n) (Nat.le_of_ble_eq_true rfl) (Nat.le_of_ble_eq_true rfl) (by rw [show k = (md 0 5).toNatClampNeg by omega]; simp only [riM, eq_true c_7, eq_true c_28, eq_self, bM_l, bM_r, rsM_l, rsM_r, seV_l, seV_r, snE_l, snE_r, up1_at, up1_up1, up2_up2, not_false_eq_true, not_true_eq_false, and_true, true_and, and_false, false_and, and_self, ↓reduceIte, or_true, true_or, or_self, or_false, false_or]; rfl)
        · skip
          rw [up1_at, ri_lo (by have := clamp6 (x := md 0 5) hI.2.2.2; omega) (by decide)] at c_28
          have c_28 : ¬ (md 0 5).toNatClampNeg ≤ k := fun h => c_28 ((k_le (by have := k_clamp_lt (md 0 5); omega)).mpr h)
          have ok_28 := kC_ok (f := md 0) hI c_28
          refine lv_aload_n hx hb dX6_rings_31 rfl (lv_at hl 2 rfl) ?_
          refine lv_iload_n hx hb dX6_rings_32 rfl (lv_at hl 0 rfl) ?_
          refine lv_iconst (v := 0) hx hb dX6_rings_33 (by decide) ?_
          refine k_V1 hc [.int (nI k), .int 0] cw_X6_68 rfl dX6_rings_34 (c_X6_ofCamel l hlf g _ q (up1 md 0 (itr (riS v) (0, (md 0)) k).2) (nI k) 0 hW (by first | assumption | decide) (by first | assumption | decide)) hW.o hM hS hl.1 rfl rfl ⟨Nat.le_of_ble_eq_true rfl, Nat.le_of_ble_eq_true rfl⟩ ⟨Nat.le_of_ble_eq_true rfl, Nat.le_of_ble_eq_true rfl⟩ (Nat.le_of_ble_eq_true rfl) (fun H locs hM hS => ?_)
          refine lv_istore (lv' := [(4, .int (mC ((up1 md 0 (itr (riS v) (0, (md 0)) k).2) 0) (nI k) 0)), (3, .int (nI k)), (2, .int (itr (riS v) (0, (md 0)) k).1), (0, .ref q), (1, .int v)]) hx hb dX6_rings_37 hl (by decide) rfl (fun ls hl => ?_)
          refine lv_iload hx hb dX6_rings_39 (lv_at hl 0 rfl) ?_
          refine lv_iload_n hx hb dX6_rings_41 rfl (lv_at hl 4 rfl) ?_
          refine lv_isub hx hb dX6_rings_42 ?_
          refine k_abs hc q_X6_94 dX6_rings_43 hl.1 ⟨Nat.le_of_ble_eq_true rfl, Nat.le_of_ble_eq_true rfl, Nat.le_of_ble_eq_true rfl, Nat.le_of_ble_eq_true rfl⟩ ?_
          refine lv_istore (lv' := [(5, .int (absI ((mC ((up1 md 0 (itr (riS v) (0, (md 0)) k).2) 0) (nI k) 0) - v))), (4, .int (mC ((up1 md 0 (itr (riS v) (0, (md 0)) k).2) 0) (nI k) 0)), (3, .int (nI k)), (2, .int (itr (riS v) (0, (md 0)) k).1), (0, .ref q), (1, .int v)]) hx hb dX6_rings_46 hl (by decide) rfl (fun ls hl => ?_)
          refine lv_aload_n hx hb dX6_rings_48 rfl (lv_at hl 4 rfl) ?_
          refine lv_iload_n hx hb dX6_rings_49 rfl (lv_at hl 2 rfl) ?_
          refine lv_iconst (v := 2) hx hb dX6_rings_50 (by decide) ?_
          refine k_V1 hc [.int (nI k), .int 2] cw_X6_68 rfl dX6_rings_51 (c_X6_ofCamel l hlf g _ q (up1 md 0 (itr (riS v) (0, (md 0)) k).2) (nI k) 2 hW (by first | assumption | decide) (by first | assumption | decide)) hW.o hM hS hl.1 rfl rfl ⟨Nat.le_of_ble_eq_true rfl, Nat.le_of_ble_eq_true rfl⟩ ⟨Nat.le_of_ble_eq_true rfl, Nat.le_of_ble_eq_true rfl⟩ (Nat.le_of_ble_eq_true rfl) (fun H locs hM hS => ?_)
          refine lv_if_ne (tgt := 113) hx hb dX6_rings_54 (by decide) (fun c_54 => ?_) (fun c_54 => ?_)
          · skip
            simp only [up1_at, up1_up1] at c_54
            refine lv_aload_n hx hb dX6_rings_113 rfl (lv_at hl 4 rfl) ?_
            refine lv_iload_n hx hb dX6_rings_114 rfl (lv_at hl 2 rfl) ?_
            refine lv_iconst (v := 0) hx hb dX6_rings_115 (by decide) ?_
            refine k_V1 hc [.int (nI k), .int 0] cw_X6_68 rfl dX6_rings_116 (c_X6_ofCamel l hlf g _ q (up1 md 0 (itr (riS v) (0, (md 0)) k).2) (nI k) 0 hW (by first | assumption | decide) (by first | assumption | decide)) hW.o hM hS hl.1 rfl rfl ⟨Nat.le_of_ble_eq_true rfl, Nat.le_of_ble_eq_true rfl⟩ ⟨Nat.le_of_ble_eq_true rfl, Nat.le_of_ble_eq_true rfl⟩ (Nat.le_of_ble_eq_true rfl) (fun H locs hM hS => ?_)
            refine lv_iload_n hx hb dX6_rings_119 rfl (lv_at hl 5 rfl) ?_
            refine lv_icmp_ne (tgt := 126) hx hb dX6_rings_120 (by decide) (fun c_120 => ?_) (fun c_120 => ?_)
            · skip
              simp only [up1_at, up1_up1] at c_120
              refine lv_iinc (v := (nI (k + 1))) (lv' := [(3, .int (nI (k + 1))), (5, .int (absI ((mC ((up1 md 0 (itr (riS v) (0, (md 0)) k).2) 0) (nI k) 0) - v))), (4, .int (mC ((up1 md 0 (itr (riS v) (0, (md 0)) k).2) 0) (nI k) 0)), (2, .int (itr (riS v) (0, (md 0)) k).1), (0, .ref q), (1, .int v)]) hx hb dX6_rings_126 hl (k := 2) rfl (k_inc1 _) (by decide) rfl (fun ls hl => ?_)
              refine lv_goto (tgt := 21) hx hb dX6_rings_129 (by decide) ?_
              have z_2 : (itr (riS v) (0, (md 0)) k).1 = (itr (riS v) (0, (md 0)) (k + 1)).1 := (by rw [itr_s]; simp only [riS, riC, up1_at, eq_true c_7, eq_false c_28, eq_false c_54, eq_false c_120, not_false_eq_true, not_true_eq_false, and_true, true_and, and_false, false_and, and_self, ↓reduceIte, or_true, true_or, or_self, or_false, false_or])
              have hl := lv_chg (lv_sub hl [3, 0, 1, 2, 4, 5] rfl) z_2
              have hM : hR g (putD g M q (up1 md 0 (itr (riS v) (0, (md 0)) (k + 1)).2)) _ := hR.eq hM (congrArg (putD g M q) (by rw [itr_s]; simp only [up1_up1, up1_at, riS, riC, eq_true c_7, eq_false c_28, eq_false c_54, eq_false c_120, not_false_eq_true, not_true_eq_false, and_true, true_and, and_false, false_and, and_self, ↓reduceIte, or_true, true_or, or_self, or_false, false_or]))
              exact ih_21 (k + 1) (by omega) (by omega) ls _ _ hM hS (lv_sub hl [1, 0, 4, 5] rfl)
            · skip
              simp only [up1_at, up1_up1] at c_120
              refine lv_iinc (v := ((itr (riS v) (0, (md 0)) k).1 + 1)) (lv' := [(2, .int ((itr (riS v) (0, (md 0)) k).1 + 1)), (5, .int (absI ((mC ((up1 md 0 (itr (riS v) (0, (md 0)) k).2) 0) (nI k) 0) - v))), (4, .int (mC ((up1 md 0 (itr (riS v) (0, (md 0)) k).2) 0) (nI k) 0)), (3, .int (nI k)), (0, .ref q), (1, .int v)]) hx hb dX6_rings_123 hl (k := 3) rfl rfl (by decide) rfl (fun ls hl => ?_)
              refine lv_iinc (v := (nI (k + 1))) (lv' := [(3, .int (nI (k + 1))), (2, .int ((itr (riS v) (0, (md 0)) k).1 + 1)), (5, .int (absI ((mC ((up1 md 0 (itr (riS v) (0, (md 0)) k).2) 0) (nI k) 0) - v))), (4, .int (mC ((up1 md 0 (itr (riS v) (0, (md 0)) k).2) 0) (nI k) 0)), (0, .ref q), (1, .int v)]) hx hb dX6_rings_126 hl (k := 3) rfl (k_inc1 _) (by decide) rfl (fun ls hl => ?_)
              refine lv_goto (tgt := 21) hx hb dX6_rings_129 (by decide) ?_
              have z_2 : ((itr (riS v) (0, (md 0)) k).1 + 1) = (itr (riS v) (0, (md 0)) (k + 1)).1 := (by rw [itr_s]; simp only [riS, riC, up1_at, eq_true c_7, eq_false c_28, eq_false c_54, eq_true c_120, not_false_eq_true, not_true_eq_false, and_true, true_and, and_false, false_and, and_self, ↓reduceIte, or_true, true_or, or_self, or_false, false_or])
              have hl := lv_chg (lv_sub hl [1, 0, 2, 3, 4, 5] rfl) z_2
              have hM : hR g (putD g M q (up1 md 0 (itr (riS v) (0, (md 0)) (k + 1)).2)) _ := hR.eq hM (congrArg (putD g M q) (by rw [itr_s]; simp only [up1_up1, up1_at, riS, riC, eq_true c_7, eq_false c_28, eq_false c_54, eq_true c_120, not_false_eq_true, not_true_eq_false, and_true, true_and, and_false, false_and, and_self, ↓reduceIte, or_true, true_or, or_self, or_false, false_or]))
              exact ih_21 (k + 1) (by omega) (by omega) ls _ _ hM hS (lv_sub hl [1, 0, 4, 5] rfl)
          · skip
            simp only [up1_at, up1_up1] at c_54
            refine lv_aload_n hx hb dX6_rings_57 rfl (lv_at hl 4 rfl) ?_
            refine lv_iload_n hx hb dX6_rings_58 rfl (lv_at hl 2 rfl) ?_
            refine k_V1 hc [.int (nI k)] cw_X6_135 rfl dX6_rings_59 (c_X6_isLost l hlf g _ q (up1 md 0 (itr (riS v) (0, (md 0)) k).2) (nI k) hW (by first | assumption | decide)) hW.o hM hS hl.1 rfl rfl ⟨Nat.le_of_ble_eq_true rfl, Nat.le_of_ble_eq_true rfl⟩ ⟨Nat.le_of_ble_eq_true rfl, Nat.le_of_ble_eq_true rfl⟩ (Nat.le_of_ble_eq_true rfl) (fun H locs hM hS => ?_)
            refine lv_if_ne (tgt := 113) hx hb dX6_rings_62 (by decide) (fun c_62 => ?_) (fun c_62 => ?_)
            · skip
              have c_62 := bI_ne.mp c_62
              simp only [up1_at, up1_up1] at c_62
              refine lv_aload_n hx hb dX6_rings_113 rfl (lv_at hl 4 rfl) ?_
              refine lv_iload_n hx hb dX6_rings_114 rfl (lv_at hl 2 rfl) ?_
              refine lv_iconst (v := 0) hx hb dX6_rings_115 (by decide) ?_
              refine k_V1 hc [.int (nI k), .int 0] cw_X6_68 rfl dX6_rings_116 (c_X6_ofCamel l hlf g _ q (up1 md 0 (itr (riS v) (0, (md 0)) k).2) (nI k) 0 hW (by first | assumption | decide) (by first | assumption | decide)) hW.o hM hS hl.1 rfl rfl ⟨Nat.le_of_ble_eq_true rfl, Nat.le_of_ble_eq_true rfl⟩ ⟨Nat.le_of_ble_eq_true rfl, Nat.le_of_ble_eq_true rfl⟩ (Nat.le_of_ble_eq_true rfl) (fun H locs hM hS => ?_)
              refine lv_iload_n hx hb dX6_rings_119 rfl (lv_at hl 5 rfl) ?_
              refine lv_icmp_ne (tgt := 126) hx hb dX6_rings_120 (by decide) (fun c_120 => ?_) (fun c_120 => ?_)
              · skip
                simp only [up1_at, up1_up1] at c_120
                refine lv_iinc (v := (nI (k + 1))) (lv' := [(3, .int (nI (k + 1))), (5, .int (absI ((mC ((up1 md 0 (itr (riS v) (0, (md 0)) k).2) 0) (nI k) 0) - v))), (4, .int (mC ((up1 md 0 (itr (riS v) (0, (md 0)) k).2) 0) (nI k) 0)), (2, .int (itr (riS v) (0, (md 0)) k).1), (0, .ref q), (1, .int v)]) hx hb dX6_rings_126 hl (k := 2) rfl (k_inc1 _) (by decide) rfl (fun ls hl => ?_)
                refine lv_goto (tgt := 21) hx hb dX6_rings_129 (by decide) ?_
                have z_2 : (itr (riS v) (0, (md 0)) k).1 = (itr (riS v) (0, (md 0)) (k + 1)).1 := (by rw [itr_s]; simp only [riS, riC, up1_at, eq_true c_7, eq_false c_28, eq_true c_54, eq_true c_62, eq_false c_120, not_false_eq_true, not_true_eq_false, and_true, true_and, and_false, false_and, and_self, ↓reduceIte, or_true, true_or, or_self, or_false, false_or])
                have hl := lv_chg (lv_sub hl [3, 0, 1, 2, 4, 5] rfl) z_2
                have hM : hR g (putD g M q (up1 md 0 (itr (riS v) (0, (md 0)) (k + 1)).2)) _ := hR.eq hM (congrArg (putD g M q) (by rw [itr_s]; simp only [up1_up1, up1_at, riS, riC, eq_true c_7, eq_false c_28, eq_true c_54, eq_true c_62, eq_false c_120, not_false_eq_true, not_true_eq_false, and_true, true_and, and_false, false_and, and_self, ↓reduceIte, or_true, true_or, or_self, or_false, false_or]))
                exact ih_21 (k + 1) (by omega) (by omega) ls _ _ hM hS (lv_sub hl [1, 0, 4, 5] rfl)
              · skip
                simp only [up1_at, up1_up1] at c_120
                refine lv_iinc (v := ((itr (riS v) (0, (md 0)) k).1 + 1)) (lv' := [(2, .int ((itr (riS v) (0, (md 0)) k).1 + 1)), (5, .int (absI ((mC ((up1 md 0 (itr (riS v) (0, (md 0)) k).2) 0) (nI k) 0) - v))), (4, .int (mC ((up1 md 0 (itr (riS v) (0, (md 0)) k).2) 0) (nI k) 0)), (3, .int (nI k)), (0, .ref q), (1, .int v)]) hx hb dX6_rings_123 hl (k := 3) rfl rfl (by decide) rfl (fun ls hl => ?_)
                refine lv_iinc (v := (nI (k + 1))) (lv' := [(3, .int (nI (k + 1))), (2, .int ((itr (riS v) (0, (md 0)) k).1 + 1)), (5, .int (absI ((mC ((up1 md 0 (itr (riS v) (0, (md 0)) k).2) 0) (nI k) 0) - v))), (4, .int (mC ((up1 md 0 (itr (riS v) (0, (md 0)) k).2) 0) (nI k) 0)), (0, .ref q), (1, .int v)]) hx hb dX6_rings_126 hl (k := 3) rfl (k_inc1 _) (by decide) rfl (fun ls hl => ?_)
                refine lv_goto (tgt := 21) hx hb dX6_rings_129 (by decide) ?_
                have z_2 : ((itr (riS v) (0, (md 0)) k).1 + 1) = (itr (riS v) (0, (md 0)) (k + 1)).1 := (by rw [itr_s]; simp only [riS, riC, up1_at, eq_true c_7, eq_false c_28, eq_true c_54, eq_true c_62, eq_true c_120, not_false_eq_true, not_true_eq_false, and_true, true_and, and_false, false_and, and_self, ↓reduceIte, or_true, true_or, or_self, or_false, false_or])
                have hl := lv_chg (lv_sub hl [1, 0, 2, 3, 4, 5] rfl) z_2
                have hM : hR g (putD g M q (up1 md 0 (itr (riS v) (0, (md 0)) (k + 1)).2)) _ := hR.eq hM (congrArg (putD g M q) (by rw [itr_s]; simp only [up1_up1, up1_at, riS, riC, eq_true c_7, eq_false c_28, eq_true c_54, eq_true c_62, eq_true c_120, not_false_eq_true, not_true_eq_false, and_true, true_and, and_false, false_and, and_self, ↓reduceIte, or_true, true_or, or_self, or_false, false_or]))
                exact ih_21 (k + 1) (by omega) (by omega) ls _ _ hM hS (lv_sub hl [1, 0, 4, 5] rfl)
            · skip
              have c_62 := bI_eq.mp c_62
              simp only [up1_at, up1_up1] at c_62
              refine lv_iload hx hb dX6_rings_65 (lv_at hl 0 rfl) ?_
              refine lv_bipush (v := 30) hx hb dX6_rings_67 (by decide) ?_
              refine lv_aload_n hx hb dX6_rings_69 rfl (lv_at hl 4 rfl) ?_
              refine lv_iconst (v := 0) hx hb dX6_rings_70 (by decide) ?_
              refine k_V1 hc [.int 0] cw_X6_88 rfl dX6_rings_71 (c_X6_heatBehind l hlf g _ q (up1 md 0 (itr (riS v) (0, (md 0)) k).2) 0 hW) hW.o hM hS hl.1 rfl rfl ⟨Nat.le_of_ble_eq_true rfl, Nat.le_of_ble_eq_true rfl⟩ ⟨Nat.le_of_ble_eq_true rfl, Nat.le_of_ble_eq_true rfl⟩ (Nat.le_of_ble_eq_true rfl) (fun H locs hM hS => ?_)
              refine lv_isub hx hb dX6_rings_74 ?_
              refine lv_icmp_gt (tgt := 113) hx hb dX6_rings_75 (by decide) (fun c_75 => ?_) (fun c_75 => ?_)
              · skip
                simp only [up1_at, up1_up1] at c_75
                refine lv_aload_n hx hb dX6_rings_113 rfl (lv_at hl 4 rfl) ?_
                refine lv_iload_n hx hb dX6_rings_114 rfl (lv_at hl 2 rfl) ?_
                refine lv_iconst (v := 0) hx hb dX6_rings_115 (by decide) ?_
                refine k_V1 hc [.int (nI k), .int 0] cw_X6_68 rfl dX6_rings_116 (c_X6_ofCamel l hlf g _ q (up1 md 0 (itr (riS v) (0, (md 0)) k).2) (nI k) 0 hW (by first | assumption | decide) (by first | assumption | decide)) hW.o hM hS hl.1 rfl rfl ⟨Nat.le_of_ble_eq_true rfl, Nat.le_of_ble_eq_true rfl⟩ ⟨Nat.le_of_ble_eq_true rfl, Nat.le_of_ble_eq_true rfl⟩ (Nat.le_of_ble_eq_true rfl) (fun H locs hM hS => ?_)
                refine lv_iload_n hx hb dX6_rings_119 rfl (lv_at hl 5 rfl) ?_
                refine lv_icmp_ne (tgt := 126) hx hb dX6_rings_120 (by decide) (fun c_120 => ?_) (fun c_120 => ?_)
                · skip
                  simp only [up1_at, up1_up1] at c_120
                  refine lv_iinc (v := (nI (k + 1))) (lv' := [(3, .int (nI (k + 1))), (5, .int (absI ((mC ((up1 md 0 (itr (riS v) (0, (md 0)) k).2) 0) (nI k) 0) - v))), (4, .int (mC ((up1 md 0 (itr (riS v) (0, (md 0)) k).2) 0) (nI k) 0)), (2, .int (itr (riS v) (0, (md 0)) k).1), (0, .ref q), (1, .int v)]) hx hb dX6_rings_126 hl (k := 2) rfl (k_inc1 _) (by decide) rfl (fun ls hl => ?_)
                  refine lv_goto (tgt := 21) hx hb dX6_rings_129 (by decide) ?_
                  have z_2 : (itr (riS v) (0, (md 0)) k).1 = (itr (riS v) (0, (md 0)) (k + 1)).1 := (by rw [itr_s]; simp only [riS, riC, up1_at, eq_true c_7, eq_false c_28, eq_true c_54, eq_false c_62, eq_true c_75, eq_false c_120, not_false_eq_true, not_true_eq_false, and_true, true_and, and_false, false_and, and_self, ↓reduceIte, or_true, true_or, or_self, or_false, false_or])
                  have hl := lv_chg (lv_sub hl [3, 0, 1, 2, 4, 5] rfl) z_2
                  have hM : hR g (putD g M q (up1 md 0 (itr (riS v) (0, (md 0)) (k + 1)).2)) _ := hR.eq hM (congrArg (putD g M q) (by rw [itr_s]; simp only [up1_up1, up1_at, riS, riC, eq_true c_7, eq_false c_28, eq_true c_54, eq_false c_62, eq_true c_75, eq_false c_120, not_false_eq_true, not_true_eq_false, and_true, true_and, and_false, false_and, and_self, ↓reduceIte, or_true, true_or, or_self, or_false, false_or]))
                  exact ih_21 (k + 1) (by omega) (by omega) ls _ _ hM hS (lv_sub hl [1, 0, 4, 5] rfl)
                · skip
                  simp only [up1_at, up1_up1] at c_120
                  refine lv_iinc (v := ((itr (riS v) (0, (md 0)) k).1 + 1)) (lv' := [(2, .int ((itr (riS v) (0, (md 0)) k).1 + 1)), (5, .int (absI ((mC ((up1 md 0 (itr (riS v) (0, (md 0)) k).2) 0) (nI k) 0) - v))), (4, .int (mC ((up1 md 0 (itr (riS v) (0, (md 0)) k).2) 0) (nI k) 0)), (3, .int (nI k)), (0, .ref q), (1, .int v)]) hx hb dX6_rings_123 hl (k := 3) rfl rfl (by decide) rfl (fun ls hl => ?_)
                  refine lv_iinc (v := (nI (k + 1))) (lv' := [(3, .int (nI (k + 1))), (2, .int ((itr (riS v) (0, (md 0)) k).1 + 1)), (5, .int (absI ((mC ((up1 md 0 (itr (riS v) (0, (md 0)) k).2) 0) (nI k) 0) - v))), (4, .int (mC ((up1 md 0 (itr (riS v) (0, (md 0)) k).2) 0) (nI k) 0)), (0, .ref q), (1, .int v)]) hx hb dX6_rings_126 hl (k := 3) rfl (k_inc1 _) (by decide) rfl (fun ls hl => ?_)
                  refine lv_goto (tgt := 21) hx hb dX6_rings_129 (by decide) ?_
                  have z_2 : ((itr (riS v) (0, (md 0)) k).1 + 1) = (itr (riS v) (0, (md 0)) (k + 1)).1 := (by rw [itr_s]; simp only [riS, riC, up1_at, eq_true c_7, eq_false c_28, eq_true c_54, eq_false c_62, eq_true c_75, eq_true c_120, not_false_eq_true, not_true_eq_false, and_true, true_and, and_false, false_and, and_self, ↓reduceIte, or_true, true_or, or_self, or_false, false_or])
                  have hl := lv_chg (lv_sub hl [1, 0, 2, 3, 4, 5] rfl) z_2
                  have hM : hR g (putD g M q (up1 md 0 (itr (riS v) (0, (md 0)) (k + 1)).2)) _ := hR.eq hM (congrArg (putD g M q) (by rw [itr_s]; simp only [up1_up1, up1_at, riS, riC, eq_true c_7, eq_false c_28, eq_true c_54, eq_false c_62, eq_true c_75, eq_true c_120, not_false_eq_true, not_true_eq_false, and_true, true_and, and_false, false_and, and_self, ↓reduceIte, or_true, true_or, or_self, or_false, false_or]))
                  exact ih_21 (k + 1) (by omega) (by omega) ls _ _ hM hS (lv_sub hl [1, 0, 4, 5] rfl)
              · skip
                simp only [up1_at, up1_up1] at c_75
                refine lv_aload_n hx hb dX6_rings_78 rfl (lv_at hl 4 rfl) ?_
                refine lv_iload_n hx hb dX6_rings_79 rfl (lv_at hl 2 rfl) ?_
                refine lv_iconst (v := 0) hx hb dX6_rings_80 (by decide) ?_
                refine lv_iload hx hb dX6_rings_81 (lv_at hl 1 rfl) ?_
                refine lv_iload_n hx hb dX6_rings_83 rfl (lv_at hl 5 rfl) ?_
                refine lv_icmp_ge (tgt := 100) hx hb dX6_rings_84 (by decide) (fun c_84 => ?_) (fun c_84 => ?_)
                · skip
                  simp only [up1_at, up1_up1] at c_84
                  refine lv_iload hx hb dX6_rings_100 (lv_at hl 1 rfl) ?_
                  refine lv_bipush (v := 10) hx hb dX6_rings_102 (by decide) ?_
                  refine lv_iload hx hb dX6_rings_104 (lv_at hl 0 rfl) ?_
                  refine k_min hc q_X6_72 dX6_rings_106 hl.1 ⟨Nat.le_of_ble_eq_true rfl, Nat.le_of_ble_eq_true rfl, Nat.le_of_ble_eq_true rfl, Nat.le_of_ble_eq_true rfl⟩ ?_
                  refine lv_isub hx hb dX6_rings_109 ?_
                  refine k_V0 hc [.int (nI k), .int 0, .int ((mC ((up1 md 0 (itr (riS v) (0, (md 0)) k).2) 0) (nI k) 0) - (minI 10 (absI ((mC ((up1 md 0 (itr (riS v) (0, (md 0)) k).2) 0) (nI k) 0) - v))))] cw_X6_131 rfl dX6_rings_110 (c_X6_setsCamel l hlf g _ q (up1 md 0 (itr (riS v) (0, (md 0)) k).2) (nI k) 0 ((mC ((up1 md 0 (itr (riS v) (0, (md 0)) k).2) 0) (nI k) 0) - (minI 10 (absI ((mC ((up1 md 0 (itr (riS v) (0, (md 0)) k).2) 0) (nI k) 0) - v)))) hW (by first | assumption | decide) (by first | assumption | decide)) hW.o hM hS hl.1 rfl rfl ⟨Nat.le_of_ble_eq_true rfl, Nat.le_of_ble_eq_true rfl⟩ ⟨Nat.le_of_ble_eq_true rfl, Nat.le_of_ble_eq_true rfl⟩ (Nat.le_of_ble_eq_true rfl) (fun H locs hM hS => ?_)
                  have hM := hR.eq hM putD_putD
                  have hW := MdAt.put (g := g) (M := M) (m := q) (md := (up1 (up1 md 0 (itr (riS v) (0, (md 0)) k).2) 0 (sC ((up1 md 0 (itr (riS v) (0, (md 0)) k).2) 0) (nI k) 0 ((mC ((up1 md 0 (itr (riS v) (0, (md 0)) k).2) 0) (nI k) 0) - (minI 10 (absI ((mC ((up1 md 0 (itr (riS v) (0, (md 0)) k).2) 0) (nI k) 0) - v)))))))
                  refine lv_aload_n hx hb dX6_rings_113 rfl (lv_at hl 4 rfl) ?_
                  refine lv_iload_n hx hb dX6_rings_114 rfl (lv_at hl 2 rfl) ?_
                  refine lv_iconst (v := 0) hx hb dX6_rings_115 (by decide) ?_
                  refine k_V1 hc [.int (nI k), .int 0] cw_X6_68 rfl dX6_rings_116 (c_X6_ofCamel l hlf g _ q (up1 (up1 md 0 (itr (riS v) (0, (md 0)) k).2) 0 (sC ((up1 md 0 (itr (riS v) (0, (md 0)) k).2) 0) (nI k) 0 ((mC ((up1 md 0 (itr (riS v) (0, (md 0)) k).2) 0) (nI k) 0) - (minI 10 (absI ((mC ((up1 md 0 (itr (riS v) (0, (md 0)) k).2) 0) (nI k) 0) - v)))))) (nI k) 0 hW (by first | assumption | decide) (by first | assumption | decide)) hW.o hM hS hl.1 rfl rfl ⟨Nat.le_of_ble_eq_true rfl, Nat.le_of_ble_eq_true rfl⟩ ⟨Nat.le_of_ble_eq_true rfl, Nat.le_of_ble_eq_true rfl⟩ (Nat.le_of_ble_eq_true rfl) (fun H locs hM hS => ?_)
                  refine lv_iload_n hx hb dX6_rings_119 rfl (lv_at hl 5 rfl) ?_
                  refine lv_icmp_ne (tgt := 126) hx hb dX6_rings_120 (by decide) (fun c_120 => ?_) (fun c_120 => ?_)
                  · skip
                    simp only [up1_at, up1_up1] at c_120
                    refine lv_iinc (v := (nI (k + 1))) (lv' := [(3, .int (nI (k + 1))), (5, .int (absI ((mC ((up1 md 0 (itr (riS v) (0, (md 0)) k).2) 0) (nI k) 0) - v))), (4, .int (mC ((up1 md 0 (itr (riS v) (0, (md 0)) k).2) 0) (nI k) 0)), (2, .int (itr (riS v) (0, (md 0)) k).1), (0, .ref q), (1, .int v)]) hx hb dX6_rings_126 hl (k := 2) rfl (k_inc1 _) (by decide) rfl (fun ls hl => ?_)
                    refine lv_goto (tgt := 21) hx hb dX6_rings_129 (by decide) ?_
                    have z_2 : (itr (riS v) (0, (md 0)) k).1 = (itr (riS v) (0, (md 0)) (k + 1)).1 := (by rw [itr_s]; simp only [riS, riC, up1_at, eq_true c_7, eq_false c_28, eq_true c_54, eq_false c_62, eq_false c_75, eq_true c_84, eq_false c_120, not_false_eq_true, not_true_eq_false, and_true, true_and, and_false, false_and, and_self, ↓reduceIte, or_true, true_or, or_self, or_false, false_or])
                    have hl := lv_chg (lv_sub hl [3, 0, 1, 2, 4, 5] rfl) z_2
                    have hM : hR g (putD g M q (up1 md 0 (itr (riS v) (0, (md 0)) (k + 1)).2)) _ := hR.eq hM (congrArg (putD g M q) (by rw [itr_s]; simp only [up1_up1, up1_at, riS, riC, eq_true c_7, eq_false c_28, eq_true c_54, eq_false c_62, eq_false c_75, eq_true c_84, eq_false c_120, not_false_eq_true, not_true_eq_false, and_true, true_and, and_false, false_and, and_self, ↓reduceIte, or_true, true_or, or_self, or_false, false_or]))
                    exact ih_21 (k + 1) (by omega) (by omega) ls _ _ hM hS (lv_sub hl [1, 0, 4, 5] rfl)
                  · skip
                    simp only [up1_at, up1_up1] at c_120
                    refine lv_iinc (v := ((itr (riS v) (0, (md 0)) k).1 + 1)) (lv' := [(2, .int ((itr (riS v) (0, (md 0)) k).1 + 1)), (5, .int (absI ((mC ((up1 md 0 (itr (riS v) (0, (md 0)) k).2) 0) (nI k) 0) - v))), (4, .int (mC ((up1 md 0 (itr (riS v) (0, (md 0)) k).2) 0) (nI k) 0)), (3, .int (nI k)), (0, .ref q), (1, .int v)]) hx hb dX6_rings_123 hl (k := 3) rfl rfl (by decide) rfl (fun ls hl => ?_)
                    refine lv_iinc (v := (nI (k + 1))) (lv' := [(3, .int (nI (k + 1))), (2, .int ((itr (riS v) (0, (md 0)) k).1 + 1)), (5, .int (absI ((mC ((up1 md 0 (itr (riS v) (0, (md 0)) k).2) 0) (nI k) 0) - v))), (4, .int (mC ((up1 md 0 (itr (riS v) (0, (md 0)) k).2) 0) (nI k) 0)), (0, .ref q), (1, .int v)]) hx hb dX6_rings_126 hl (k := 3) rfl (k_inc1 _) (by decide) rfl (fun ls hl => ?_)
                    refine lv_goto (tgt := 21) hx hb dX6_rings_129 (by decide) ?_
                    have z_2 : ((itr (riS v) (0, (md 0)) k).1 + 1) = (itr (riS v) (0, (md 0)) (k + 1)).1 := (by rw [itr_s]; simp only [riS, riC, up1_at, eq_true c_7, eq_false c_28, eq_true c_54, eq_false c_62, eq_false c_75, eq_true c_84, eq_true c_120, not_false_eq_true, not_true_eq_false, and_true, true_and, and_false, false_and, and_self, ↓reduceIte, or_true, true_or, or_self, or_false, false_or])
                    have hl := lv_chg (lv_sub hl [1, 0, 2, 3, 4, 5] rfl) z_2
                    have hM : hR g (putD g M q (up1 md 0 (itr (riS v) (0, (md 0)) (k + 1)).2)) _ := hR.eq hM (congrArg (putD g M q) (by rw [itr_s]; simp only [up1_up1, up1_at, riS, riC, eq_true c_7, eq_false c_28, eq_true c_54, eq_false c_62, eq_false c_75, eq_true c_84, eq_true c_120, not_false_eq_true, not_true_eq_false, and_true, true_and, and_false, false_and, and_self, ↓reduceIte, or_true, true_or, or_self, or_false, false_or]))
                    exact ih_21 (k + 1) (by omega) (by omega) ls _ _ hM hS (lv_sub hl [1, 0, 4, 5] rfl)
                · skip
                  simp only [up1_at, up1_up1] at c_84
                  refine lv_iload hx hb dX6_rings_87 (lv_at hl 1 rfl) ?_
                  refine lv_bipush (v := 10) hx hb dX6_rings_89 (by decide) ?_
                  refine lv_iload hx hb dX6_rings_91 (lv_at hl 0 rfl) ?_
                  refine k_min hc q_X6_72 dX6_rings_93 hl.1 ⟨Nat.le_of_ble_eq_true rfl, Nat.le_of_ble_eq_true rfl, Nat.le_of_ble_eq_true rfl, Nat.le_of_ble_eq_true rfl⟩ ?_
                  refine lv_iadd hx hb dX6_rings_96 ?_
                  refine lv_goto (tgt := 110) hx hb dX6_rings_97 (by decide) ?_
                  refine k_V0 hc [.int (nI k), .int 0, .int ((mC ((up1 md 0 (itr (riS v) (0, (md 0)) k).2) 0) (nI k) 0) + (minI 10 (absI ((mC ((up1 md 0 (itr (riS v) (0, (md 0)) k).2) 0) (nI k) 0) - v))))] cw_X6_131 rfl dX6_rings_110 (c_X6_setsCamel l hlf g _ q (up1 md 0 (itr (riS v) (0, (md 0)) k).2) (nI k) 0 ((mC ((up1 md 0 (itr (riS v) (0, (md 0)) k).2) 0) (nI k) 0) + (minI 10 (absI ((mC ((up1 md 0 (itr (riS v) (0, (md 0)) k).2) 0) (nI k) 0) - v)))) hW (by first | assumption | decide) (by first | assumption | decide)) hW.o hM hS hl.1 rfl rfl ⟨Nat.le_of_ble_eq_true rfl, Nat.le_of_ble_eq_true rfl⟩ ⟨Nat.le_of_ble_eq_true rfl, Nat.le_of_ble_eq_true rfl⟩ (Nat.le_of_ble_eq_true rfl) (fun H locs hM hS => ?_)
                  have hM := hR.eq hM putD_putD
                  have hW := MdAt.put (g := g) (M := M) (m := q) (md := (up1 (up1 md 0 (itr (riS v) (0, (md 0)) k).2) 0 (sC ((up1 md 0 (itr (riS v) (0, (md 0)) k).2) 0) (nI k) 0 ((mC ((up1 md 0 (itr (riS v) (0, (md 0)) k).2) 0) (nI k) 0) + (minI 10 (absI ((mC ((up1 md 0 (itr (riS v) (0, (md 0)) k).2) 0) (nI k) 0) - v)))))))
                  refine lv_aload_n hx hb dX6_rings_113 rfl (lv_at hl 4 rfl) ?_
                  refine lv_iload_n hx hb dX6_rings_114 rfl (lv_at hl 2 rfl) ?_
                  refine lv_iconst (v := 0) hx hb dX6_rings_115 (by decide) ?_
                  refine k_V1 hc [.int (nI k), .int 0] cw_X6_68 rfl dX6_rings_116 (c_X6_ofCamel l hlf g _ q (up1 (up1 md 0 (itr (riS v) (0, (md 0)) k).2) 0 (sC ((up1 md 0 (itr (riS v) (0, (md 0)) k).2) 0) (nI k) 0 ((mC ((up1 md 0 (itr (riS v) (0, (md 0)) k).2) 0) (nI k) 0) + (minI 10 (absI ((mC ((up1 md 0 (itr (riS v) (0, (md 0)) k).2) 0) (nI k) 0) - v)))))) (nI k) 0 hW (by first | assumption | decide) (by first | assumption | decide)) hW.o hM hS hl.1 rfl rfl ⟨Nat.le_of_ble_eq_true rfl, Nat.le_of_ble_eq_true rfl⟩ ⟨Nat.le_of_ble_eq_true rfl, Nat.le_of_ble_eq_true rfl⟩ (Nat.le_of_ble_eq_true rfl) (fun H locs hM hS => ?_)
                  refine lv_iload_n hx hb dX6_rings_119 rfl (lv_at hl 5 rfl) ?_
                  refine lv_icmp_ne (tgt := 126) hx hb dX6_rings_120 (by decide) (fun c_120 => ?_) (fun c_120 => ?_)
                  · skip
                    simp only [up1_at, up1_up1] at c_120
                    refine lv_iinc (v := (nI (k + 1))) (lv' := [(3, .int (nI (k + 1))), (5, .int (absI ((mC ((up1 md 0 (itr (riS v) (0, (md 0)) k).2) 0) (nI k) 0) - v))), (4, .int (mC ((up1 md 0 (itr (riS v) (0, (md 0)) k).2) 0) (nI k) 0)), (2, .int (itr (riS v) (0, (md 0)) k).1), (0, .ref q), (1, .int v)]) hx hb dX6_rings_126 hl (k := 2) rfl (k_inc1 _) (by decide) rfl (fun ls hl => ?_)
                    refine lv_goto (tgt := 21) hx hb dX6_rings_129 (by decide) ?_
                    have z_2 : (itr (riS v) (0, (md 0)) k).1 = (itr (riS v) (0, (md 0)) (k + 1)).1 := (by rw [itr_s]; simp only [riS, riC, up1_at, eq_true c_7, eq_false c_28, eq_true c_54, eq_false c_62, eq_false c_75, eq_false c_84, eq_false c_120, not_false_eq_true, not_true_eq_false, and_true, true_and, and_false, false_and, and_self, ↓reduceIte, or_true, true_or, or_self, or_false, false_or])
                    have hl := lv_chg (lv_sub hl [3, 0, 1, 2, 4, 5] rfl) z_2
                    have hM : hR g (putD g M q (up1 md 0 (itr (riS v) (0, (md 0)) (k + 1)).2)) _ := hR.eq hM (congrArg (putD g M q) (by rw [itr_s]; simp only [up1_up1, up1_at, riS, riC, eq_true c_7, eq_false c_28, eq_true c_54, eq_false c_62, eq_false c_75, eq_false c_84, eq_false c_120, not_false_eq_true, not_true_eq_false, and_true, true_and, and_false, false_and, and_self, ↓reduceIte, or_true, true_or, or_self, or_false, false_or]))
                    exact ih_21 (k + 1) (by omega) (by omega) ls _ _ hM hS (lv_sub hl [1, 0, 4, 5] rfl)
                  · skip
                    simp only [up1_at, up1_up1] at c_120
                    refine lv_iinc (v := ((itr (riS v) (0, (md 0)) k).1 + 1)) (lv' := [(2, .int ((itr (riS v) (0, (md 0)) k).1 + 1)), (5, .int (absI ((mC ((up1 md 0 (itr (riS v) (0, (md 0)) k).2) 0) (nI k) 0) - v))), (4, .int (mC ((up1 md 0 (itr (riS v) (0, (md 0)) k).2) 0) (nI k) 0)), (3, .int (nI k)), (0, .ref q), (1, .int v)]) hx hb dX6_rings_123 hl (k := 3) rfl rfl (by decide) rfl (fun ls hl => ?_)
                    refine lv_iinc (v := (nI (k + 1))) (lv' := [(3, .int (nI (k + 1))), (2, .int ((itr (riS v) (0, (md 0)) k).1 + 1)), (5, .int (absI ((mC ((up1 md 0 (itr (riS v) (0, (md 0)) k).2) 0) (nI k) 0) - v))), (4, .int (mC ((up1 md 0 (itr (riS v) (0, (md 0)) k).2) 0) (nI k) 0)), (0, .ref q), (1, .int v)]) hx hb dX6_rings_126 hl (k := 3) rfl (k_inc1 _) (by decide) rfl (fun ls hl => ?_)
                    refine lv_goto (tgt := 21) hx hb dX6_rings_129 (by decide) ?_
                    have z_2 : ((itr (riS v) (0, (md 0)) k).1 + 1) = (itr (riS v) (0, (md 0)) (k + 1)).1 := (by rw [itr_s]; simp only [riS, riC, up1_at, eq_true c_7, eq_false c_28, eq_true c_54, eq_false c_62, eq_false c_75, eq_false c_84, eq_true c_120, not_false_eq_true, not_true_eq_false, and_true, true_and, and_false, false_and, and_self, ↓reduceIte, or_true, true_or, or_self, or_false, false_or])
                    have hl := lv_chg (lv_sub hl [1, 0, 2, 3, 4, 5] rfl) z_2
                    have hM : hR g (putD g M q (up1 md 0 (itr (riS v) (0, (md 0)) (k + 1)).2)) _ := hR.eq hM (congrArg (putD g M q) (by rw [itr_s]; simp only [up1_up1, up1_at, riS, riC, eq_true c_7, eq_false c_28, eq_true c_54, eq_false c_62, eq_false c_75, eq_false c_84, eq_true c_120, not_false_eq_true, not_true_eq_false, and_true, true_and, and_false, false_and, and_self, ↓reduceIte, or_true, true_or, or_self, or_false, false_or]))
                    exact ih_21 (k + 1) (by omega) (by omega) ls _ _ hM hS (lv_sub hl [1, 0, 4, 5] rfl)
    have z_3 : 0 = (nI 0) := rfl
    have hl := lv_chg (lv_sub hl [0, 1, 2, 3] rfl) z_3
    have z_2 : 0 = (itr (riS v) (0, (md 0)) 0).1 := rfl
    have hl := lv_chg (lv_sub hl [1, 0, 2, 3] rfl) z_2
    have hM : hR g (putD g M q (up1 md 0 (itr (riS v) (0, (md 0)) 0).2)) _ := hR.eq hM ((putD_same hW).symm.trans (congrArg (putD g M q) up1_self.symm))
    exact lp_21 ((md 0 5).toNatClampNeg + 1) 0 (by omega) (by omega) ls _ _ hM hS (lv_sub hl [1, 0, 2, 3] rfl)
  · skip
    have c_7 := bI_eq.mp c_7
    refine lv_aload_n hx hb dX6_rings_10 rfl (lv_at hl 0 rfl) ?_
    refine lv_iconst (v := 1) hx hb dX6_rings_11 (by decide) ?_
    refine lv_iconst (v := 0) hx hb dX6_rings_12 (by decide) ?_
    refine k_V1 hc [.int 1, .int 0] cw_X6_80 rfl dX6_rings_13 (c_X6_refuses l hlf g _ q md 1 0 hW) hW.o hM hS hl.1 rfl rfl ⟨Nat.le_of_ble_eq_true rfl, Nat.le_of_ble_eq_true rfl⟩ ⟨Nat.le_of_ble_eq_true rfl, Nat.le_of_ble_eq_true rfl⟩ (Nat.le_of_ble_eq_true rfl) (fun H locs hM hS => ?_)
    have hW := MdAt.put (g := g) (M := M) (m := q) (md := (rfM md 1 0))
    exact k_zret hc hr dX6_rings_16 hM hS (by first | rfl | exact bI_n) (Nat.le_of_ble_eq_true rfl) (Nat.le_of_ble_eq_true rfl) (by first | rfl | (simp only [riM, eq_false c_7, eq_self, bM_l, bM_r, rsM_l, rsM_r, seV_l, seV_r, snE_l, snE_r, up1_at, up1_up1, up2_up2, not_false_eq_true, not_true_eq_false, and_true, true_and, and_false, false_and, and_self, ↓reduceIte, or_true, true_or, or_self, or_false, false_or]; done) | (simp only [riM, eq_false c_7, eq_self, bM_l, bM_r, rsM_l, rsM_r, seV_l, seV_r, snE_l, snE_r, up1_at, up1_up1, up2_up2, not_false_eq_true, not_true_eq_false, and_true, true_and, and_false, false_and, and_self, ↓reduceIte, or_true, true_or, or_self, or_false, false_or]; rfl))
set_option maxHeartbeats 4000000 in
set_option maxRecDepth 100000 in
theorem c_X6_ties (l : Launch) (hlf : l.stackTraces = false) (g : GC) (M : HM) (q : Nat) (md : FL) (v : Int32) (hW : MdAt g M q md) (hI : mOk (md 0)) : KM g l yX6_ties cX6_ties 4 (some .boolean) 5 0 0 [.ref q, .int v] M (.inl (some (.int (bM (tiM (md 0) v))), (putD g M q (rsM md (tiM (md 0) v))))) := by
  refine k_meth hlf (by decide) (Nat.le_of_ble_eq_true rfl) fun p e s m below meth c ls hc hr hnx hM hS hl => ?_
  have hc : Cx g p l s m [.ref q, .int v].toArray meth c cX6_ties 4 RX6 := hc
  have hx := hc.1
  have hb := hc.2.1
  have hl : lv_has ls 4 [(0, .ref q), (1, .int v)] := hl
  refine lv_aload_n hx hb dX6_ties_0 rfl (lv_at hl 0 rfl) ?_
  refine lv_iload_n hx hb dX6_ties_1 rfl (lv_at hl 1 rfl) ?_
  refine k_V1 hc [.int v] cw_X6_141 rfl dX6_ties_2 (c_X6_isCamel l hlf g _ q md v hW) hW.o hM hS hl.1 rfl rfl ⟨Nat.le_of_ble_eq_true rfl, Nat.le_of_ble_eq_true rfl⟩ ⟨Nat.le_of_ble_eq_true rfl, Nat.le_of_ble_eq_true rfl⟩ (Nat.le_of_ble_eq_true rfl) (fun H locs hM hS => ?_)
  refine lv_if_ne (tgt := 15) hx hb dX6_ties_5 (by decide) (fun c_5 => ?_) (fun c_5 => ?_)
  · skip
    have c_5 := bI_ne.mp c_5
    have ok_5 := isC_ok (f := md 0) hI c_5
    refine lv_aload_n hx hb dX6_ties_15 rfl (lv_at hl 0 rfl) ?_
    refine lv_iload_n hx hb dX6_ties_16 rfl (lv_at hl 1 rfl) ?_
    refine k_V1 hc [.int v] cw_X6_135 rfl dX6_ties_17 (c_X6_isLost l hlf g _ q md v hW (by first | assumption | decide)) hW.o hM hS hl.1 rfl rfl ⟨Nat.le_of_ble_eq_true rfl, Nat.le_of_ble_eq_true rfl⟩ ⟨Nat.le_of_ble_eq_true rfl, Nat.le_of_ble_eq_true rfl⟩ (Nat.le_of_ble_eq_true rfl) (fun H locs hM hS => ?_)
    refine lv_if_eq (tgt := 36) hx hb dX6_ties_20 (by decide) (fun c_20 => ?_) (fun c_20 => ?_)
    · skip
      have c_20 := bI_eq.mp c_20
      refine lv_aload_n hx hb dX6_ties_36 rfl (lv_at hl 0 rfl) ?_
      refine lv_iload_n hx hb dX6_ties_37 rfl (lv_at hl 1 rfl) ?_
      refine lv_iconst (v := 2) hx hb dX6_ties_38 (by decide) ?_
      refine k_V1 hc [.int v, .int 2] cw_X6_68 rfl dX6_ties_39 (c_X6_ofCamel l hlf g _ q md v 2 hW (by first | assumption | decide) (by first | assumption | decide)) hW.o hM hS hl.1 rfl rfl ⟨Nat.le_of_ble_eq_true rfl, Nat.le_of_ble_eq_true rfl⟩ ⟨Nat.le_of_ble_eq_true rfl, Nat.le_of_ble_eq_true rfl⟩ (Nat.le_of_ble_eq_true rfl) (fun H locs hM hS => ?_)
      refine lv_iconst (v := 1) hx hb dX6_ties_42 (by decide) ?_
      refine lv_icmp_ne (tgt := 54) hx hb dX6_ties_43 (by decide) (fun c_43 => ?_) (fun c_43 => ?_)
      · skip
        refine lv_aload_n hx hb dX6_ties_54 rfl (lv_at hl 0 rfl) ?_
        refine gt_X6_9 hc dX6_ties_55 hM hW.o rfl ?_
        refine lv_iconst (v := 3) hx hb dX6_ties_58 (by decide) ?_
        refine k_ialdN hc hM (n := 81) (hW.ar 0 (by decide) (by decide) rfl rfl) (X := 3) rfl (by omega) (by decide) dX6_ties_59 ?_
        refine lv_if_ne (tgt := 71) hx hb dX6_ties_60 (by decide) (fun c_60 => ?_) (fun c_60 => ?_)
        · skip
          refine lv_bipush (v := 100) hx hb dX6_ties_71 (by decide) ?_
          refine lv_istore_n (lv' := [(2, .int 100), (0, .ref q), (1, .int v)]) hx hb dX6_ties_73 rfl hl (by decide) rfl (fun ls hl => ?_)
          refine lv_iconst (v := 0) hx hb dX6_ties_74 (by decide) ?_
          refine lv_istore_n (lv' := [(3, .int 0), (2, .int 100), (0, .ref q), (1, .int v)]) hx hb dX6_ties_75 rfl hl (by decide) rfl (fun ls hl => ?_)
          have lp_76 : ∀ (D k : Nat), ((md 0 3).toNatClampNeg) - k < D → k ≤ (md 0 3).toNatClampNeg → ∀ (ls : Array Slot) (H : Heap) (locs : List Loc), hR g M H → va_S (gA g) s.heap H locs → lv_has ls 4 [(3, .int (nI k)), (2, .int (itr (neS (md 0) v) 100 k)), (0, .ref q), (1, .int v)] → W p l e (rmOf 5 0 0) s m [.ref q, .int v].toArray below meth c H locs 0 0 (vx_MQ below (KQ g (.inl (some (.int (bM (tiM (md 0) v))), (putD g M q (rsM md (tiM (md 0) v)))))) (KX g (.inl (some (.int (bM (tiM (md 0) v))), (putD g M q (rsM md (tiM (md 0) v)))))) [.ref q, .int v].toArray s 0 0 (gA g)) (F0 m 76 ls []) := by
            intro D
            induction D with
            | zero => intro k hD; exact absurd hD (Nat.not_lt_zero _)
            | succ D ih_76 =>
              intro k hD hk ls H locs hM hS hl
              refine lv_iload_n hx hb dX6_ties_76 rfl (lv_at hl 0 rfl) ?_
              refine lv_aload_n hx hb dX6_ties_77 rfl (lv_at hl 2 rfl) ?_
              refine gt_X6_9 hc dX6_ties_78 hM hW.o rfl ?_
              refine lv_iconst (v := 3) hx hb dX6_ties_81 (by decide) ?_
              refine k_ialdN hc hM (n := 81) (hW.ar 0 (by decide) (by decide) rfl rfl) (X := 3) rfl (by omega) (by decide) dX6_ties_82 ?_
              refine lv_icmp_ge (tgt := 113) hx hb dX6_ties_83 (by decide) (fun c_83 => ?_) (fun c_83 => ?_)
              · skip
                have c_83 := (k_le (by have := k_clamp_lt (md 0 3); omega)).mp c_83
                have z_2 : (itr (neS (md 0) v) 100 k) = (neM (md 0) v) := (by rw [neM, show k = (md 0 3).toNatClampNeg by omega])
                have hl := lv_chg (lv_sub hl [1, 0, 2, 3] rfl) z_2
                refine lv_iload_n hx hb dX6_ties_113 rfl (lv_at hl 0 rfl) ?_
                refine lv_iconst (v := 5) hx hb dX6_ties_114 (by decide) ?_
                refine lv_icmp_le (tgt := 126) hx hb dX6_ties_115 (by decide) (fun c_115 => ?_) (fun c_115 => ?_)
                · skip
                  refine lv_aload_n hx hb dX6_ties_126 rfl (lv_at hl 2 rfl) ?_
                  refine lv_iload_n hx hb dX6_ties_127 rfl (lv_at hl 3 rfl) ?_
                  refine lv_iconst (v := 2) hx hb dX6_ties_128 (by decide) ?_
                  refine lv_iconst (v := 1) hx hb dX6_ties_129 (by decide) ?_
                  refine k_V0 hc [.int v, .int 2, .int 1] cw_X6_131 rfl dX6_ties_130 (c_X6_setsCamel l hlf g _ q md v 2 1 hW (by first | assumption | decide) (by first | assumption | decide)) hW.o hM hS hl.1 rfl rfl ⟨Nat.le_of_ble_eq_true rfl, Nat.le_of_ble_eq_true rfl⟩ ⟨Nat.le_of_ble_eq_true rfl, Nat.le_of_ble_eq_true rfl⟩ (Nat.le_of_ble_eq_true rfl) (fun H locs hM hS => ?_)
                  have hW := MdAt.put (g := g) (M := M) (m := q) (md := (up1 md 0 (sC (md 0) v 2 1)))
                  refine lv_aload_n hx hb dX6_ties_133 rfl (lv_at hl 2 rfl) ?_
                  refine lv_aload_n hx hb dX6_ties_134 rfl (lv_at hl 2 rfl) ?_
                  refine k_V1 hc [] cw_X6_144 rfl dX6_ties_135 (c_X6_tied l hlf g _ q (up1 md 0 (sC (md 0) v 2 1)) hW (mOk_of hI (fun j h2 h6 => sC_lo ok_5 (by decide) (by omega)))) hW.o hM hS hl.1 rfl rfl ⟨Nat.le_of_ble_eq_true rfl, Nat.le_of_ble_eq_true rfl⟩ ⟨Nat.le_of_ble_eq_true rfl, Nat.le_of_ble_eq_true rfl⟩ (Nat.le_of_ble_eq_true rfl) (fun H locs hM hS => ?_)
                  refine k_V1 hc [.int (tdM ((up1 md 0 (sC (md 0) v 2 1)) 0))] cw_X6_119 rfl dX6_ties_138 (c_X6_does l hlf g _ q (up1 md 0 (sC (md 0) v 2 1)) (tdM ((up1 md 0 (sC (md 0) v 2 1)) 0)) hW) hW.o hM hS hl.1 rfl rfl ⟨Nat.le_of_ble_eq_true rfl, Nat.le_of_ble_eq_true rfl⟩ ⟨Nat.le_of_ble_eq_true rfl, Nat.le_of_ble_eq_true rfl⟩ (Nat.le_of_ble_eq_true rfl) (fun H locs hM hS => ?_)
                  have hM := hR.eq hM putD_putD
                  have hW := MdAt.put (g := g) (M := M) (m := q) (md := (up2 (up1 md 0 (sC (md 0) v 2 1)) 7 18 (tdM ((up1 md 0 (sC (md 0) v 2 1)) 0))))
                  exact k_zret hc hr dX6_ties_141 hM hS (by first | rfl | exact bI_n) (Nat.le_of_ble_eq_true rfl) (Nat.le_of_ble_eq_true rfl) (by first | rfl | (simp only [tiM, eq_true c_5, eq_false c_20, eq_false c_43, eq_false c_60, eq_true c_83, eq_true c_115, eq_self, bM_l, bM_r, rsM_l, rsM_r, seV_l, seV_r, snE_l, snE_r, up1_at, up1_up1, up2_up2, not_false_eq_true, not_true_eq_false, and_true, true_and, and_false, false_and, and_self, ↓reduceIte, or_true, true_or, or_self, or_false, false_or]; done) | (simp only [tiM, eq_true c_5, eq_false c_20, eq_false c_43, eq_false c_60, eq_true c_83, eq_true c_115, eq_self, bM_l, bM_r, rsM_l, rsM_r, seV_l, seV_r, snE_l, snE_r, up1_at, up1_up1, up2_up2, not_false_eq_true, not_true_eq_false, and_true, true_and, and_false, false_and, and_self, ↓reduceIte, or_true, true_or, or_self, or_false, false_or]; rfl))
                · skip
                  refine lv_aload_n hx hb dX6_ties_118 rfl (lv_at hl 2 rfl) ?_
                  refine lv_bipush (v := 11) hx hb dX6_ties_119 (by decide) ?_
                  refine lv_iload_n hx hb dX6_ties_121 rfl (lv_at hl 0 rfl) ?_
                  refine k_V1 hc [.int 11, .int (neM (md 0) v)] cw_X6_80 rfl dX6_ties_122 (c_X6_refuses l hlf g _ q md 11 (neM (md 0) v) hW) hW.o hM hS hl.1 rfl rfl ⟨Nat.le_of_ble_eq_true rfl, Nat.le_of_ble_eq_true rfl⟩ ⟨Nat.le_of_ble_eq_true rfl, Nat.le_of_ble_eq_true rfl⟩ (Nat.le_of_ble_eq_true rfl) (fun H locs hM hS => ?_)
                  have hW := MdAt.put (g := g) (M := M) (m := q) (md := (rfM md 11 (neM (md 0) v)))
                  exact k_zret hc hr dX6_ties_125 hM hS (by first | rfl | exact bI_n) (Nat.le_of_ble_eq_true rfl) (Nat.le_of_ble_eq_true rfl) (by first | rfl | (simp only [tiM, eq_true c_5, eq_false c_20, eq_false c_43, eq_false c_60, eq_true c_83, eq_false c_115, eq_self, bM_l, bM_r, rsM_l, rsM_r, seV_l, seV_r, snE_l, snE_r, up1_at, up1_up1, up2_up2, not_false_eq_true, not_true_eq_false, and_true, true_and, and_false, false_and, and_self, ↓reduceIte, or_true, true_or, or_self, or_false, false_or]; done) | (simp only [tiM, eq_true c_5, eq_false c_20, eq_false c_43, eq_false c_60, eq_true c_83, eq_false c_115, eq_self, bM_l, bM_r, rsM_l, rsM_r, seV_l, seV_r, snE_l, snE_r, up1_at, up1_up1, up2_up2, not_false_eq_true, not_true_eq_false, and_true, true_and, and_false, false_and, and_self, ↓reduceIte, or_true, true_or, or_self, or_false, false_or]; rfl))
              · skip
                have c_83 : ¬ (md 0 3).toNatClampNeg ≤ k := fun h => c_83 ((k_le (by have := k_clamp_lt (md 0 3); omega)).mpr h)
                have ok_83 := kP_ok (f := md 0) hI c_83
                refine lv_iload_n hx hb dX6_ties_86 rfl (lv_at hl 1 rfl) ?_
                refine lv_aload_n hx hb dX6_ties_87 rfl (lv_at hl 2 rfl) ?_
                refine lv_iload_n hx hb dX6_ties_88 rfl (lv_at hl 0 rfl) ?_
                refine lv_iconst (v := 0) hx hb dX6_ties_89 (by decide) ?_
                refine k_V1 hc [.int (nI k), .int 0] cw_X6_91 rfl dX6_ties_90 (c_X6_ofPost l hlf g _ q md (nI k) 0 hW (by first | assumption | decide) (by first | assumption | decide)) hW.o hM hS hl.1 rfl rfl ⟨Nat.le_of_ble_eq_true rfl, Nat.le_of_ble_eq_true rfl⟩ ⟨Nat.le_of_ble_eq_true rfl, Nat.le_of_ble_eq_true rfl⟩ (Nat.le_of_ble_eq_true rfl) (fun H locs hM hS => ?_)
                refine lv_aload_n hx hb dX6_ties_93 rfl (lv_at hl 2 rfl) ?_
                refine lv_iload_n hx hb dX6_ties_94 rfl (lv_at hl 3 rfl) ?_
                refine lv_iconst (v := 0) hx hb dX6_ties_95 (by decide) ?_
                refine k_V1 hc [.int v, .int 0] cw_X6_68 rfl dX6_ties_96 (c_X6_ofCamel l hlf g _ q md v 0 hW (by first | assumption | decide) (by first | assumption | decide)) hW.o hM hS hl.1 rfl rfl ⟨Nat.le_of_ble_eq_true rfl, Nat.le_of_ble_eq_true rfl⟩ ⟨Nat.le_of_ble_eq_true rfl, Nat.le_of_ble_eq_true rfl⟩ (Nat.le_of_ble_eq_true rfl) (fun H locs hM hS => ?_)
                refine lv_isub hx hb dX6_ties_99 ?_
                refine k_abs hc q_X6_94 dX6_ties_100 hl.1 ⟨Nat.le_of_ble_eq_true rfl, Nat.le_of_ble_eq_true rfl, Nat.le_of_ble_eq_true rfl, Nat.le_of_ble_eq_true rfl⟩ ?_
                refine k_min hc q_X6_72 dX6_ties_103 hl.1 ⟨Nat.le_of_ble_eq_true rfl, Nat.le_of_ble_eq_true rfl, Nat.le_of_ble_eq_true rfl, Nat.le_of_ble_eq_true rfl⟩ ?_
                refine lv_istore_n (lv' := [(2, .int (minI (itr (neS (md 0) v) 100 k) (absI ((mP (md 0) (nI k) 0) - (mC (md 0) v 0))))), (3, .int (nI k)), (0, .ref q), (1, .int v)]) hx hb dX6_ties_106 rfl hl (by decide) rfl (fun ls hl => ?_)
                refine lv_iinc (v := (nI (k + 1))) (lv' := [(3, .int (nI (k + 1))), (2, .int (minI (itr (neS (md 0) v) 100 k) (absI ((mP (md 0) (nI k) 0) - (mC (md 0) v 0))))), (0, .ref q), (1, .int v)]) hx hb dX6_ties_107 hl (k := 1) rfl (k_inc1 _) (by decide) rfl (fun ls hl => ?_)
                refine lv_goto (tgt := 76) hx hb dX6_ties_110 (by decide) ?_
                have z_2 : (minI (itr (neS (md 0) v) 100 k) (absI ((mP (md 0) (nI k) 0) - (mC (md 0) v 0)))) = (itr (neS (md 0) v) 100 (k + 1)) := rfl
                have hl := lv_chg (lv_sub hl [1, 0, 2, 3] rfl) z_2
                exact ih_76 (k + 1) (by omega) (by omega) ls _ _ hM hS (lv_sub hl [1, 0, 2, 3] rfl)
          have z_3 : 0 = (nI 0) := rfl
          have hl := lv_chg (lv_sub hl [0, 1, 2, 3] rfl) z_3
          have z_2 : 100 = (itr (neS (md 0) v) 100 0) := rfl
          have hl := lv_chg (lv_sub hl [1, 0, 2, 3] rfl) z_2
          exact lp_76 ((md 0 3).toNatClampNeg + 1) 0 (by omega) (by omega) ls _ _ hM hS (lv_sub hl [1, 0, 2, 3] rfl)
        · skip
          refine lv_aload_n hx hb dX6_ties_63 rfl (lv_at hl 0 rfl) ?_
          refine lv_bipush (v := 11) hx hb dX6_ties_64 (by decide) ?_
          refine lv_iconst (v := 0) hx hb dX6_ties_66 (by decide) ?_
          refine k_V1 hc [.int 11, .int 0] cw_X6_80 rfl dX6_ties_67 (c_X6_refuses l hlf g _ q md 11 0 hW) hW.o hM hS hl.1 rfl rfl ⟨Nat.le_of_ble_eq_true rfl, Nat.le_of_ble_eq_true rfl⟩ ⟨Nat.le_of_ble_eq_true rfl, Nat.le_of_ble_eq_true rfl⟩ (Nat.le_of_ble_eq_true rfl) (fun H locs hM hS => ?_)
          have hW := MdAt.put (g := g) (M := M) (m := q) (md := (rfM md 11 0))
          exact k_zret hc hr dX6_ties_70 hM hS (by first | rfl | exact bI_n) (Nat.le_of_ble_eq_true rfl) (Nat.le_of_ble_eq_true rfl) (by first | rfl | (simp only [tiM, eq_true c_5, eq_false c_20, eq_false c_43, eq_true c_60, eq_self, bM_l, bM_r, rsM_l, rsM_r, seV_l, seV_r, snE_l, snE_r, up1_at, up1_up1, up2_up2, not_false_eq_true, not_true_eq_false, and_true, true_and, and_false, false_and, and_self, ↓reduceIte, or_true, true_or, or_self, or_false, false_or]; done) | (simp only [tiM, eq_true c_5, eq_false c_20, eq_false c_43, eq_true c_60, eq_self, bM_l, bM_r, rsM_l, rsM_r, seV_l, seV_r, snE_l, snE_r, up1_at, up1_up1, up2_up2, not_false_eq_true, not_true_eq_false, and_true, true_and, and_false, false_and, and_self, ↓reduceIte, or_true, true_or, or_self, or_false, false_or]; rfl))
      · skip
        refine lv_aload_n hx hb dX6_ties_46 rfl (lv_at hl 0 rfl) ?_
        refine lv_bipush (v := 7) hx hb dX6_ties_47 (by decide) ?_
        refine lv_iload_n hx hb dX6_ties_49 rfl (lv_at hl 1 rfl) ?_
        refine k_V1 hc [.int 7, .int v] cw_X6_80 rfl dX6_ties_50 (c_X6_refuses l hlf g _ q md 7 v hW) hW.o hM hS hl.1 rfl rfl ⟨Nat.le_of_ble_eq_true rfl, Nat.le_of_ble_eq_true rfl⟩ ⟨Nat.le_of_ble_eq_true rfl, Nat.le_of_ble_eq_true rfl⟩ (Nat.le_of_ble_eq_true rfl) (fun H locs hM hS => ?_)
        have hW := MdAt.put (g := g) (M := M) (m := q) (md := (rfM md 7 v))
        exact k_zret hc hr dX6_ties_53 hM hS (by first | rfl | exact bI_n) (Nat.le_of_ble_eq_true rfl) (Nat.le_of_ble_eq_true rfl) (by first | rfl | (simp only [tiM, eq_true c_5, eq_false c_20, eq_true c_43, eq_self, bM_l, bM_r, rsM_l, rsM_r, seV_l, seV_r, snE_l, snE_r, up1_at, up1_up1, up2_up2, not_false_eq_true, not_true_eq_false, and_true, true_and, and_false, false_and, and_self, ↓reduceIte, or_true, true_or, or_self, or_false, false_or]; done) | (simp only [tiM, eq_true c_5, eq_false c_20, eq_true c_43, eq_self, bM_l, bM_r, rsM_l, rsM_r, seV_l, seV_r, snE_l, snE_r, up1_at, up1_up1, up2_up2, not_false_eq_true, not_true_eq_false, and_true, true_and, and_false, false_and, and_self, ↓reduceIte, or_true, true_or, or_self, or_false, false_or]; rfl))
    · skip
      have c_20 := bI_ne.mp c_20
      refine lv_aload_n hx hb dX6_ties_23 rfl (lv_at hl 0 rfl) ?_
      refine lv_bipush (v := 8) hx hb dX6_ties_24 (by decide) ?_
      refine lv_aload_n hx hb dX6_ties_26 rfl (lv_at hl 0 rfl) ?_
      refine lv_iload_n hx hb dX6_ties_27 rfl (lv_at hl 1 rfl) ?_
      refine lv_iconst (v := 0) hx hb dX6_ties_28 (by decide) ?_
      refine k_V1 hc [.int v, .int 0] cw_X6_68 rfl dX6_ties_29 (c_X6_ofCamel l hlf g _ q md v 0 hW (by first | assumption | decide) (by first | assumption | decide)) hW.o hM hS hl.1 rfl rfl ⟨Nat.le_of_ble_eq_true rfl, Nat.le_of_ble_eq_true rfl⟩ ⟨Nat.le_of_ble_eq_true rfl, Nat.le_of_ble_eq_true rfl⟩ (Nat.le_of_ble_eq_true rfl) (fun H locs hM hS => ?_)
      refine k_V1 hc [.int 8, .int (mC (md 0) v 0)] cw_X6_80 rfl dX6_ties_32 (c_X6_refuses l hlf g _ q md 8 (mC (md 0) v 0) hW) hW.o hM hS hl.1 rfl rfl ⟨Nat.le_of_ble_eq_true rfl, Nat.le_of_ble_eq_true rfl⟩ ⟨Nat.le_of_ble_eq_true rfl, Nat.le_of_ble_eq_true rfl⟩ (Nat.le_of_ble_eq_true rfl) (fun H locs hM hS => ?_)
      have hW := MdAt.put (g := g) (M := M) (m := q) (md := (rfM md 8 (mC (md 0) v 0)))
      exact k_zret hc hr dX6_ties_35 hM hS (by first | rfl | exact bI_n) (Nat.le_of_ble_eq_true rfl) (Nat.le_of_ble_eq_true rfl) (by first | rfl | (simp only [tiM, eq_true c_5, eq_true c_20, eq_self, bM_l, bM_r, rsM_l, rsM_r, seV_l, seV_r, snE_l, snE_r, up1_at, up1_up1, up2_up2, not_false_eq_true, not_true_eq_false, and_true, true_and, and_false, false_and, and_self, ↓reduceIte, or_true, true_or, or_self, or_false, false_or]; done) | (simp only [tiM, eq_true c_5, eq_true c_20, eq_self, bM_l, bM_r, rsM_l, rsM_r, seV_l, seV_r, snE_l, snE_r, up1_at, up1_up1, up2_up2, not_false_eq_true, not_true_eq_false, and_true, true_and, and_false, false_and, and_self, ↓reduceIte, or_true, true_or, or_self, or_false, false_or]; rfl))
  · skip
    have c_5 := bI_eq.mp c_5
    refine lv_aload_n hx hb dX6_ties_8 rfl (lv_at hl 0 rfl) ?_
    refine lv_iconst (v := 3) hx hb dX6_ties_9 (by decide) ?_
    refine lv_iload_n hx hb dX6_ties_10 rfl (lv_at hl 1 rfl) ?_
    refine k_V1 hc [.int 3, .int v] cw_X6_80 rfl dX6_ties_11 (c_X6_refuses l hlf g _ q md 3 v hW) hW.o hM hS hl.1 rfl rfl ⟨Nat.le_of_ble_eq_true rfl, Nat.le_of_ble_eq_true rfl⟩ ⟨Nat.le_of_ble_eq_true rfl, Nat.le_of_ble_eq_true rfl⟩ (Nat.le_of_ble_eq_true rfl) (fun H locs hM hS => ?_)
    have hW := MdAt.put (g := g) (M := M) (m := q) (md := (rfM md 3 v))
    exact k_zret hc hr dX6_ties_14 hM hS (by first | rfl | exact bI_n) (Nat.le_of_ble_eq_true rfl) (Nat.le_of_ble_eq_true rfl) (by first | rfl | (simp only [tiM, eq_false c_5, eq_self, bM_l, bM_r, rsM_l, rsM_r, seV_l, seV_r, snE_l, snE_r, up1_at, up1_up1, up2_up2, not_false_eq_true, not_true_eq_false, and_true, true_and, and_false, false_and, and_self, ↓reduceIte, or_true, true_or, or_self, or_false, false_or]; done) | (simp only [tiM, eq_false c_5, eq_self, bM_l, bM_r, rsM_l, rsM_r, seV_l, seV_r, snE_l, snE_r, up1_at, up1_up1, up2_up2, not_false_eq_true, not_true_eq_false, and_true, true_and, and_false, false_and, and_self, ↓reduceIte, or_true, true_or, or_self, or_false, false_or]; rfl))
set_option maxHeartbeats 4000000 in
set_option maxRecDepth 100000 in
theorem c_X6_looses (l : Launch) (hlf : l.stackTraces = false) (g : GC) (M : HM) (q : Nat) (md : FL) (v : Int32) (hW : MdAt g M q md) (hI : mOk (md 0)) : KM g l yX6_looses cX6_looses 2 (some .boolean) 3 0 0 [.ref q, .int v] M (.inl (some (.int (bM (loM (md 0) v))), (putD g M q (rsM md (loM (md 0) v))))) := by
  refine k_meth hlf (by decide) (Nat.le_of_ble_eq_true rfl) fun p e s m below meth c ls hc hr hnx hM hS hl => ?_
  have hc : Cx g p l s m [.ref q, .int v].toArray meth c cX6_looses 2 RX6 := hc
  have hx := hc.1
  have hb := hc.2.1
  have hl : lv_has ls 2 [(0, .ref q), (1, .int v)] := hl
  refine lv_aload_n hx hb dX6_looses_0 rfl (lv_at hl 0 rfl) ?_
  refine lv_iload_n hx hb dX6_looses_1 rfl (lv_at hl 1 rfl) ?_
  refine k_V1 hc [.int v] cw_X6_141 rfl dX6_looses_2 (c_X6_isCamel l hlf g _ q md v hW) hW.o hM hS hl.1 rfl rfl ⟨Nat.le_of_ble_eq_true rfl, Nat.le_of_ble_eq_true rfl⟩ ⟨Nat.le_of_ble_eq_true rfl, Nat.le_of_ble_eq_true rfl⟩ (Nat.le_of_ble_eq_true rfl) (fun H locs hM hS => ?_)
  refine lv_if_ne (tgt := 15) hx hb dX6_looses_5 (by decide) (fun c_5 => ?_) (fun c_5 => ?_)
  · skip
    have c_5 := bI_ne.mp c_5
    have ok_5 := isC_ok (f := md 0) hI c_5
    refine lv_aload_n hx hb dX6_looses_15 rfl (lv_at hl 0 rfl) ?_
    refine lv_iload_n hx hb dX6_looses_16 rfl (lv_at hl 1 rfl) ?_
    refine lv_iconst (v := 2) hx hb dX6_looses_17 (by decide) ?_
    refine k_V1 hc [.int v, .int 2] cw_X6_68 rfl dX6_looses_18 (c_X6_ofCamel l hlf g _ q md v 2 hW (by first | assumption | decide) (by first | assumption | decide)) hW.o hM hS hl.1 rfl rfl ⟨Nat.le_of_ble_eq_true rfl, Nat.le_of_ble_eq_true rfl⟩ ⟨Nat.le_of_ble_eq_true rfl, Nat.le_of_ble_eq_true rfl⟩ (Nat.le_of_ble_eq_true rfl) (fun H locs hM hS => ?_)
    refine lv_if_ne (tgt := 32) hx hb dX6_looses_21 (by decide) (fun c_21 => ?_) (fun c_21 => ?_)
    · skip
      refine lv_aload_n hx hb dX6_looses_32 rfl (lv_at hl 0 rfl) ?_
      refine lv_iload_n hx hb dX6_looses_33 rfl (lv_at hl 1 rfl) ?_
      refine lv_iconst (v := 2) hx hb dX6_looses_34 (by decide) ?_
      refine lv_iconst (v := 0) hx hb dX6_looses_35 (by decide) ?_
      refine k_V0 hc [.int v, .int 2, .int 0] cw_X6_131 rfl dX6_looses_36 (c_X6_setsCamel l hlf g _ q md v 2 0 hW (by first | assumption | decide) (by first | assumption | decide)) hW.o hM hS hl.1 rfl rfl ⟨Nat.le_of_ble_eq_true rfl, Nat.le_of_ble_eq_true rfl⟩ ⟨Nat.le_of_ble_eq_true rfl, Nat.le_of_ble_eq_true rfl⟩ (Nat.le_of_ble_eq_true rfl) (fun H locs hM hS => ?_)
      have hW := MdAt.put (g := g) (M := M) (m := q) (md := (up1 md 0 (sC (md 0) v 2 0)))
      refine lv_aload_n hx hb dX6_looses_39 rfl (lv_at hl 0 rfl) ?_
      refine lv_aload_n hx hb dX6_looses_40 rfl (lv_at hl 0 rfl) ?_
      refine k_V1 hc [] cw_X6_144 rfl dX6_looses_41 (c_X6_tied l hlf g _ q (up1 md 0 (sC (md 0) v 2 0)) hW (mOk_of hI (fun j h2 h6 => sC_lo ok_5 (by decide) (by omega)))) hW.o hM hS hl.1 rfl rfl ⟨Nat.le_of_ble_eq_true rfl, Nat.le_of_ble_eq_true rfl⟩ ⟨Nat.le_of_ble_eq_true rfl, Nat.le_of_ble_eq_true rfl⟩ (Nat.le_of_ble_eq_true rfl) (fun H locs hM hS => ?_)
      refine k_V1 hc [.int (tdM ((up1 md 0 (sC (md 0) v 2 0)) 0))] cw_X6_119 rfl dX6_looses_44 (c_X6_does l hlf g _ q (up1 md 0 (sC (md 0) v 2 0)) (tdM ((up1 md 0 (sC (md 0) v 2 0)) 0)) hW) hW.o hM hS hl.1 rfl rfl ⟨Nat.le_of_ble_eq_true rfl, Nat.le_of_ble_eq_true rfl⟩ ⟨Nat.le_of_ble_eq_true rfl, Nat.le_of_ble_eq_true rfl⟩ (Nat.le_of_ble_eq_true rfl) (fun H locs hM hS => ?_)
      have hM := hR.eq hM putD_putD
      have hW := MdAt.put (g := g) (M := M) (m := q) (md := (up2 (up1 md 0 (sC (md 0) v 2 0)) 7 18 (tdM ((up1 md 0 (sC (md 0) v 2 0)) 0))))
      exact k_zret hc hr dX6_looses_47 hM hS (by first | rfl | exact bI_n) (Nat.le_of_ble_eq_true rfl) (Nat.le_of_ble_eq_true rfl) (by first | rfl | (simp only [loM, eq_true c_5, eq_false c_21, eq_self, bM_l, bM_r, rsM_l, rsM_r, seV_l, seV_r, snE_l, snE_r, up1_at, up1_up1, up2_up2, not_false_eq_true, not_true_eq_false, and_true, true_and, and_false, false_and, and_self, ↓reduceIte, or_true, true_or, or_self, or_false, false_or]; done) | (simp only [loM, eq_true c_5, eq_false c_21, eq_self, bM_l, bM_r, rsM_l, rsM_r, seV_l, seV_r, snE_l, snE_r, up1_at, up1_up1, up2_up2, not_false_eq_true, not_true_eq_false, and_true, true_and, and_false, false_and, and_self, ↓reduceIte, or_true, true_or, or_self, or_false, false_or]; rfl))
    · skip
      refine lv_aload_n hx hb dX6_looses_24 rfl (lv_at hl 0 rfl) ?_
      refine lv_bipush (v := 7) hx hb dX6_looses_25 (by decide) ?_
      refine lv_iload_n hx hb dX6_looses_27 rfl (lv_at hl 1 rfl) ?_
      refine k_V1 hc [.int 7, .int v] cw_X6_80 rfl dX6_looses_28 (c_X6_refuses l hlf g _ q md 7 v hW) hW.o hM hS hl.1 rfl rfl ⟨Nat.le_of_ble_eq_true rfl, Nat.le_of_ble_eq_true rfl⟩ ⟨Nat.le_of_ble_eq_true rfl, Nat.le_of_ble_eq_true rfl⟩ (Nat.le_of_ble_eq_true rfl) (fun H locs hM hS => ?_)
      have hW := MdAt.put (g := g) (M := M) (m := q) (md := (rfM md 7 v))
      exact k_zret hc hr dX6_looses_31 hM hS (by first | rfl | exact bI_n) (Nat.le_of_ble_eq_true rfl) (Nat.le_of_ble_eq_true rfl) (by first | rfl | (simp only [loM, eq_true c_5, eq_true c_21, eq_self, bM_l, bM_r, rsM_l, rsM_r, seV_l, seV_r, snE_l, snE_r, up1_at, up1_up1, up2_up2, not_false_eq_true, not_true_eq_false, and_true, true_and, and_false, false_and, and_self, ↓reduceIte, or_true, true_or, or_self, or_false, false_or]; done) | (simp only [loM, eq_true c_5, eq_true c_21, eq_self, bM_l, bM_r, rsM_l, rsM_r, seV_l, seV_r, snE_l, snE_r, up1_at, up1_up1, up2_up2, not_false_eq_true, not_true_eq_false, and_true, true_and, and_false, false_and, and_self, ↓reduceIte, or_true, true_or, or_self, or_false, false_or]; rfl))
  · skip
    have c_5 := bI_eq.mp c_5
    refine lv_aload_n hx hb dX6_looses_8 rfl (lv_at hl 0 rfl) ?_
    refine lv_iconst (v := 3) hx hb dX6_looses_9 (by decide) ?_
    refine lv_iload_n hx hb dX6_looses_10 rfl (lv_at hl 1 rfl) ?_
    refine k_V1 hc [.int 3, .int v] cw_X6_80 rfl dX6_looses_11 (c_X6_refuses l hlf g _ q md 3 v hW) hW.o hM hS hl.1 rfl rfl ⟨Nat.le_of_ble_eq_true rfl, Nat.le_of_ble_eq_true rfl⟩ ⟨Nat.le_of_ble_eq_true rfl, Nat.le_of_ble_eq_true rfl⟩ (Nat.le_of_ble_eq_true rfl) (fun H locs hM hS => ?_)
    have hW := MdAt.put (g := g) (M := M) (m := q) (md := (rfM md 3 v))
    exact k_zret hc hr dX6_looses_14 hM hS (by first | rfl | exact bI_n) (Nat.le_of_ble_eq_true rfl) (Nat.le_of_ble_eq_true rfl) (by first | rfl | (simp only [loM, eq_false c_5, eq_self, bM_l, bM_r, rsM_l, rsM_r, seV_l, seV_r, snE_l, snE_r, up1_at, up1_up1, up2_up2, not_false_eq_true, not_true_eq_false, and_true, true_and, and_false, false_and, and_self, ↓reduceIte, or_true, true_or, or_self, or_false, false_or]; done) | (simp only [loM, eq_false c_5, eq_self, bM_l, bM_r, rsM_l, rsM_r, seV_l, seV_r, snE_l, snE_r, up1_at, up1_up1, up2_up2, not_false_eq_true, not_true_eq_false, and_true, true_and, and_false, false_and, and_self, ↓reduceIte, or_true, true_or, or_self, or_false, false_or]; rfl))
set_option maxHeartbeats 4000000 in
set_option maxRecDepth 100000 in
theorem c_X6_drinks (l : Launch) (hlf : l.stackTraces = false) (g : GC) (M : HM) (q : Nat) (md : FL) (v : Int32) (hW : MdAt g M q md) (hI : mOk (md 0)) : KM g l yX6_drinks cX6_drinks 4 (some .boolean) 3 0 0 [.ref q, .int v] M (.inl (some (.int (bM (drM (md 0) v))), (putD g M q (rsM md (drM (md 0) v))))) := by
  refine k_meth hlf (by decide) (Nat.le_of_ble_eq_true rfl) fun p e s m below meth c ls hc hr hnx hM hS hl => ?_
  have hc : Cx g p l s m [.ref q, .int v].toArray meth c cX6_drinks 4 RX6 := hc
  have hx := hc.1
  have hb := hc.2.1
  have hl : lv_has ls 4 [(0, .ref q), (1, .int v)] := hl
  refine lv_aload_n hx hb dX6_drinks_0 rfl (lv_at hl 0 rfl) ?_
  refine lv_iload_n hx hb dX6_drinks_1 rfl (lv_at hl 1 rfl) ?_
  refine k_V1 hc [.int v] cw_X6_141 rfl dX6_drinks_2 (c_X6_isCamel l hlf g _ q md v hW) hW.o hM hS hl.1 rfl rfl ⟨Nat.le_of_ble_eq_true rfl, Nat.le_of_ble_eq_true rfl⟩ ⟨Nat.le_of_ble_eq_true rfl, Nat.le_of_ble_eq_true rfl⟩ (Nat.le_of_ble_eq_true rfl) (fun H locs hM hS => ?_)
  refine lv_if_ne (tgt := 15) hx hb dX6_drinks_5 (by decide) (fun c_5 => ?_) (fun c_5 => ?_)
  · skip
    have c_5 := bI_ne.mp c_5
    have ok_5 := isC_ok (f := md 0) hI c_5
    refine lv_aload_n hx hb dX6_drinks_15 rfl (lv_at hl 0 rfl) ?_
    refine lv_iload_n hx hb dX6_drinks_16 rfl (lv_at hl 1 rfl) ?_
    refine k_V1 hc [.int v] cw_X6_135 rfl dX6_drinks_17 (c_X6_isLost l hlf g _ q md v hW (by first | assumption | decide)) hW.o hM hS hl.1 rfl rfl ⟨Nat.le_of_ble_eq_true rfl, Nat.le_of_ble_eq_true rfl⟩ ⟨Nat.le_of_ble_eq_true rfl, Nat.le_of_ble_eq_true rfl⟩ (Nat.le_of_ble_eq_true rfl) (fun H locs hM hS => ?_)
    refine lv_if_eq (tgt := 36) hx hb dX6_drinks_20 (by decide) (fun c_20 => ?_) (fun c_20 => ?_)
    · skip
      have c_20 := bI_eq.mp c_20
      refine lv_aload_n hx hb dX6_drinks_36 rfl (lv_at hl 0 rfl) ?_
      refine lv_iload_n hx hb dX6_drinks_37 rfl (lv_at hl 1 rfl) ?_
      refine lv_iconst (v := 1) hx hb dX6_drinks_38 (by decide) ?_
      refine k_V1 hc [.int v, .int 1] cw_X6_68 rfl dX6_drinks_39 (c_X6_ofCamel l hlf g _ q md v 1 hW (by first | assumption | decide) (by first | assumption | decide)) hW.o hM hS hl.1 rfl rfl ⟨Nat.le_of_ble_eq_true rfl, Nat.le_of_ble_eq_true rfl⟩ ⟨Nat.le_of_ble_eq_true rfl, Nat.le_of_ble_eq_true rfl⟩ (Nat.le_of_ble_eq_true rfl) (fun H locs hM hS => ?_)
      refine lv_istore_n (lv' := [(2, .int (mC (md 0) v 1)), (0, .ref q), (1, .int v)]) hx hb dX6_drinks_42 rfl hl (by decide) rfl (fun ls hl => ?_)
      refine lv_iload_n hx hb dX6_drinks_43 rfl (lv_at hl 0 rfl) ?_
      refine lv_if_ne (tgt := 55) hx hb dX6_drinks_44 (by decide) (fun c_44 => ?_) (fun c_44 => ?_)
      · skip
        refine lv_iload_n hx hb dX6_drinks_55 rfl (lv_at hl 0 rfl) ?_
        refine lv_iconst (v := 1) hx hb dX6_drinks_56 (by decide) ?_
        refine lv_iadd hx hb dX6_drinks_57 ?_
        refine lv_iconst (v := 2) hx hb dX6_drinks_58 (by decide) ?_
        refine lv_idiv hx hb dX6_drinks_59 (by decide) ?_
        refine lv_istore_n (lv' := [(3, .int (((mC (md 0) v 1) + 1) / 2)), (2, .int (mC (md 0) v 1)), (0, .ref q), (1, .int v)]) hx hb dX6_drinks_60 rfl hl (by decide) rfl (fun ls hl => ?_)
        refine lv_aload_n hx hb dX6_drinks_61 rfl (lv_at hl 2 rfl) ?_
        refine gt_X6_9 hc dX6_drinks_62 hM hW.o rfl ?_
        refine lv_bipush (v := 6) hx hb dX6_drinks_65 (by decide) ?_
        refine k_ialdN hc hM (n := 81) (hW.ar 0 (by decide) (by decide) rfl rfl) (X := 6) rfl (by omega) (by decide) dX6_drinks_67 ?_
        refine lv_iload_n hx hb dX6_drinks_68 rfl (lv_at hl 0 rfl) ?_
        refine lv_icmp_ge (tgt := 88) hx hb dX6_drinks_69 (by decide) (fun c_69 => ?_) (fun c_69 => ?_)
        · skip
          refine lv_aload_n hx hb dX6_drinks_88 rfl (lv_at hl 2 rfl) ?_
          refine gt_X6_9 hc dX6_drinks_89 hM hW.o rfl ?_
          refine lv_bipush (v := 6) hx hb dX6_drinks_92 (by decide) ?_
          refine lv_dup2_11 hx hb dX6_drinks_94 rfl rfl ?_
          refine k_ialdN hc hM (n := 81) (hW.ar 0 (by decide) (by decide) rfl rfl) (X := 6) rfl (by omega) (by decide) dX6_drinks_95 ?_
          refine lv_iload_n hx hb dX6_drinks_96 rfl (lv_at hl 0 rfl) ?_
          refine lv_isub hx hb dX6_drinks_97 ?_
          refine k_iastN hc hM hS (n := 81) (hW.ar 0 (by decide) (by decide) rfl rfl) (X := 6) rfl (by omega) (by decide) dX6_drinks_98 (fun H locs hM hS => ?_)
          have hM := hR.eq hM (putD_ar hW 0 (by decide) (by decide) rfl rfl)
          have hW := MdAt.put (g := g) (M := M) (m := q) (md := (up1 md 0 (upd (md 0) 6 (((md 0) 6) - (((mC (md 0) v 1) + 1) / 2)))))
          refine lv_aload_n hx hb dX6_drinks_99 rfl (lv_at hl 2 rfl) ?_
          refine gt_X6_9 hc dX6_drinks_100 hM hW.o rfl ?_
          refine lv_bipush (v := 7) hx hb dX6_drinks_103 (by decide) ?_
          refine lv_dup2_11 hx hb dX6_drinks_105 rfl rfl ?_
          refine k_ialdN hc hM (n := 81) (hW.ar 0 (by decide) (by decide) rfl rfl) (X := 7) rfl (by omega) (by decide) dX6_drinks_106 ?_
          refine lv_iload_n hx hb dX6_drinks_107 rfl (lv_at hl 0 rfl) ?_
          refine lv_iadd hx hb dX6_drinks_108 ?_
          refine k_iastN hc hM hS (n := 81) (hW.ar 0 (by decide) (by decide) rfl rfl) (X := 7) rfl (by omega) (by decide) dX6_drinks_109 (fun H locs hM hS => ?_)
          have hM := hR.eq hM (putD_ar hW 0 (by decide) (by decide) rfl rfl)
          have hM := hR.eq hM putD_putD
          have hW := MdAt.put (g := g) (M := M) (m := q) (md := (up1 (up1 md 0 (upd (md 0) 6 (((md 0) 6) - (((mC (md 0) v 1) + 1) / 2)))) 0 (upd ((up1 md 0 (upd (md 0) 6 (((md 0) 6) - (((mC (md 0) v 1) + 1) / 2)))) 0) 7 ((((up1 md 0 (upd (md 0) 6 (((md 0) 6) - (((mC (md 0) v 1) + 1) / 2)))) 0) 7) + (((mC (md 0) v 1) + 1) / 2)))))
          refine lv_aload_n hx hb dX6_drinks_110 rfl (lv_at hl 2 rfl) ?_
          refine lv_iload_n hx hb dX6_drinks_111 rfl (lv_at hl 3 rfl) ?_
          refine lv_iconst (v := 1) hx hb dX6_drinks_112 (by decide) ?_
          refine lv_iconst (v := 0) hx hb dX6_drinks_113 (by decide) ?_
          refine k_V0 hc [.int v, .int 1, .int 0] cw_X6_131 rfl dX6_drinks_114 (c_X6_setsCamel l hlf g _ q (up1 (up1 md 0 (upd (md 0) 6 (((md 0) 6) - (((mC (md 0) v 1) + 1) / 2)))) 0 (upd ((up1 md 0 (upd (md 0) 6 (((md 0) 6) - (((mC (md 0) v 1) + 1) / 2)))) 0) 7 ((((up1 md 0 (upd (md 0) 6 (((md 0) 6) - (((mC (md 0) v 1) + 1) / 2)))) 0) 7) + (((mC (md 0) v 1) + 1) / 2)))) v 1 0 hW (by first | assumption | decide) (by first | assumption | decide)) hW.o hM hS hl.1 rfl rfl ⟨Nat.le_of_ble_eq_true rfl, Nat.le_of_ble_eq_true rfl⟩ ⟨Nat.le_of_ble_eq_true rfl, Nat.le_of_ble_eq_true rfl⟩ (Nat.le_of_ble_eq_true rfl) (fun H locs hM hS => ?_)
          have hM := hR.eq hM putD_putD
          have hW := MdAt.put (g := g) (M := M) (m := q) (md := (up1 (up1 (up1 md 0 (upd (md 0) 6 (((md 0) 6) - (((mC (md 0) v 1) + 1) / 2)))) 0 (upd ((up1 md 0 (upd (md 0) 6 (((md 0) 6) - (((mC (md 0) v 1) + 1) / 2)))) 0) 7 ((((up1 md 0 (upd (md 0) 6 (((md 0) 6) - (((mC (md 0) v 1) + 1) / 2)))) 0) 7) + (((mC (md 0) v 1) + 1) / 2)))) 0 (sC ((up1 (up1 md 0 (upd (md 0) 6 (((md 0) 6) - (((mC (md 0) v 1) + 1) / 2)))) 0 (upd ((up1 md 0 (upd (md 0) 6 (((md 0) 6) - (((mC (md 0) v 1) + 1) / 2)))) 0) 7 ((((up1 md 0 (upd (md 0) 6 (((md 0) 6) - (((mC (md 0) v 1) + 1) / 2)))) 0) 7) + (((mC (md 0) v 1) + 1) / 2)))) 0) v 1 0)))
          refine lv_aload_n hx hb dX6_drinks_117 rfl (lv_at hl 2 rfl) ?_
          refine lv_iload_n hx hb dX6_drinks_118 rfl (lv_at hl 3 rfl) ?_
          refine lv_iconst (v := 3) hx hb dX6_drinks_119 (by decide) ?_
          refine lv_aload_n hx hb dX6_drinks_120 rfl (lv_at hl 2 rfl) ?_
          refine lv_iload_n hx hb dX6_drinks_121 rfl (lv_at hl 3 rfl) ?_
          refine lv_iconst (v := 3) hx hb dX6_drinks_122 (by decide) ?_
          refine k_V1 hc [.int v, .int 3] cw_X6_68 rfl dX6_drinks_123 (c_X6_ofCamel l hlf g _ q (up1 (up1 (up1 md 0 (upd (md 0) 6 (((md 0) 6) - (((mC (md 0) v 1) + 1) / 2)))) 0 (upd ((up1 md 0 (upd (md 0) 6 (((md 0) 6) - (((mC (md 0) v 1) + 1) / 2)))) 0) 7 ((((up1 md 0 (upd (md 0) 6 (((md 0) 6) - (((mC (md 0) v 1) + 1) / 2)))) 0) 7) + (((mC (md 0) v 1) + 1) / 2)))) 0 (sC ((up1 (up1 md 0 (upd (md 0) 6 (((md 0) 6) - (((mC (md 0) v 1) + 1) / 2)))) 0 (upd ((up1 md 0 (upd (md 0) 6 (((md 0) 6) - (((mC (md 0) v 1) + 1) / 2)))) 0) 7 ((((up1 md 0 (upd (md 0) 6 (((md 0) 6) - (((mC (md 0) v 1) + 1) / 2)))) 0) 7) + (((mC (md 0) v 1) + 1) / 2)))) 0) v 1 0)) v 3 hW (by first | assumption | decide) (by first | assumption | decide)) hW.o hM hS hl.1 rfl rfl ⟨Nat.le_of_ble_eq_true rfl, Nat.le_of_ble_eq_true rfl⟩ ⟨Nat.le_of_ble_eq_true rfl, Nat.le_of_ble_eq_true rfl⟩ (Nat.le_of_ble_eq_true rfl) (fun H locs hM hS => ?_)
          refine lv_iload_n hx hb dX6_drinks_126 rfl (lv_at hl 0 rfl) ?_
          refine lv_iadd hx hb dX6_drinks_127 ?_
          refine k_V0 hc [.int v, .int 3, .int ((mC ((up1 (up1 (up1 md 0 (upd (md 0) 6 (((md 0) 6) - (((mC (md 0) v 1) + 1) / 2)))) 0 (upd ((up1 md 0 (upd (md 0) 6 (((md 0) 6) - (((mC (md 0) v 1) + 1) / 2)))) 0) 7 ((((up1 md 0 (upd (md 0) 6 (((md 0) 6) - (((mC (md 0) v 1) + 1) / 2)))) 0) 7) + (((mC (md 0) v 1) + 1) / 2)))) 0 (sC ((up1 (up1 md 0 (upd (md 0) 6 (((md 0) 6) - (((mC (md 0) v 1) + 1) / 2)))) 0 (upd ((up1 md 0 (upd (md 0) 6 (((md 0) 6) - (((mC (md 0) v 1) + 1) / 2)))) 0) 7 ((((up1 md 0 (upd (md 0) 6 (((md 0) 6) - (((mC (md 0) v 1) + 1) / 2)))) 0) 7) + (((mC (md 0) v 1) + 1) / 2)))) 0) v 1 0)) 0) v 3) + (((mC (md 0) v 1) + 1) / 2))] cw_X6_131 rfl dX6_drinks_128 (c_X6_setsCamel l hlf g _ q (up1 (up1 (up1 md 0 (upd (md 0) 6 (((md 0) 6) - (((mC (md 0) v 1) + 1) / 2)))) 0 (upd ((up1 md 0 (upd (md 0) 6 (((md 0) 6) - (((mC (md 0) v 1) + 1) / 2)))) 0) 7 ((((up1 md 0 (upd (md 0) 6 (((md 0) 6) - (((mC (md 0) v 1) + 1) / 2)))) 0) 7) + (((mC (md 0) v 1) + 1) / 2)))) 0 (sC ((up1 (up1 md 0 (upd (md 0) 6 (((md 0) 6) - (((mC (md 0) v 1) + 1) / 2)))) 0 (upd ((up1 md 0 (upd (md 0) 6 (((md 0) 6) - (((mC (md 0) v 1) + 1) / 2)))) 0) 7 ((((up1 md 0 (upd (md 0) 6 (((md 0) 6) - (((mC (md 0) v 1) + 1) / 2)))) 0) 7) + (((mC (md 0) v 1) + 1) / 2)))) 0) v 1 0)) v 3 ((mC ((up1 (up1 (up1 md 0 (upd (md 0) 6 (((md 0) 6) - (((mC (md 0) v 1) + 1) / 2)))) 0 (upd ((up1 md 0 (upd (md 0) 6 (((md 0) 6) - (((mC (md 0) v 1) + 1) / 2)))) 0) 7 ((((up1 md 0 (upd (md 0) 6 (((md 0) 6) - (((mC (md 0) v 1) + 1) / 2)))) 0) 7) + (((mC (md 0) v 1) + 1) / 2)))) 0 (sC ((up1 (up1 md 0 (upd (md 0) 6 (((md 0) 6) - (((mC (md 0) v 1) + 1) / 2)))) 0 (upd ((up1 md 0 (upd (md 0) 6 (((md 0) 6) - (((mC (md 0) v 1) + 1) / 2)))) 0) 7 ((((up1 md 0 (upd (md 0) 6 (((md 0) 6) - (((mC (md 0) v 1) + 1) / 2)))) 0) 7) + (((mC (md 0) v 1) + 1) / 2)))) 0) v 1 0)) 0) v 3) + (((mC (md 0) v 1) + 1) / 2)) hW (by first | assumption | decide) (by first | assumption | decide)) hW.o hM hS hl.1 rfl rfl ⟨Nat.le_of_ble_eq_true rfl, Nat.le_of_ble_eq_true rfl⟩ ⟨Nat.le_of_ble_eq_true rfl, Nat.le_of_ble_eq_true rfl⟩ (Nat.le_of_ble_eq_true rfl) (fun H locs hM hS => ?_)
          have hM := hR.eq hM putD_putD
          have hW := MdAt.put (g := g) (M := M) (m := q) (md := (up1 (up1 (up1 (up1 md 0 (upd (md 0) 6 (((md 0) 6) - (((mC (md 0) v 1) + 1) / 2)))) 0 (upd ((up1 md 0 (upd (md 0) 6 (((md 0) 6) - (((mC (md 0) v 1) + 1) / 2)))) 0) 7 ((((up1 md 0 (upd (md 0) 6 (((md 0) 6) - (((mC (md 0) v 1) + 1) / 2)))) 0) 7) + (((mC (md 0) v 1) + 1) / 2)))) 0 (sC ((up1 (up1 md 0 (upd (md 0) 6 (((md 0) 6) - (((mC (md 0) v 1) + 1) / 2)))) 0 (upd ((up1 md 0 (upd (md 0) 6 (((md 0) 6) - (((mC (md 0) v 1) + 1) / 2)))) 0) 7 ((((up1 md 0 (upd (md 0) 6 (((md 0) 6) - (((mC (md 0) v 1) + 1) / 2)))) 0) 7) + (((mC (md 0) v 1) + 1) / 2)))) 0) v 1 0)) 0 (sC ((up1 (up1 (up1 md 0 (upd (md 0) 6 (((md 0) 6) - (((mC (md 0) v 1) + 1) / 2)))) 0 (upd ((up1 md 0 (upd (md 0) 6 (((md 0) 6) - (((mC (md 0) v 1) + 1) / 2)))) 0) 7 ((((up1 md 0 (upd (md 0) 6 (((md 0) 6) - (((mC (md 0) v 1) + 1) / 2)))) 0) 7) + (((mC (md 0) v 1) + 1) / 2)))) 0 (sC ((up1 (up1 md 0 (upd (md 0) 6 (((md 0) 6) - (((mC (md 0) v 1) + 1) / 2)))) 0 (upd ((up1 md 0 (upd (md 0) 6 (((md 0) 6) - (((mC (md 0) v 1) + 1) / 2)))) 0) 7 ((((up1 md 0 (upd (md 0) 6 (((md 0) 6) - (((mC (md 0) v 1) + 1) / 2)))) 0) 7) + (((mC (md 0) v 1) + 1) / 2)))) 0) v 1 0)) 0) v 3 ((mC ((up1 (up1 (up1 md 0 (upd (md 0) 6 (((md 0) 6) - (((mC (md 0) v 1) + 1) / 2)))) 0 (upd ((up1 md 0 (upd (md 0) 6 (((md 0) 6) - (((mC (md 0) v 1) + 1) / 2)))) 0) 7 ((((up1 md 0 (upd (md 0) 6 (((md 0) 6) - (((mC (md 0) v 1) + 1) / 2)))) 0) 7) + (((mC (md 0) v 1) + 1) / 2)))) 0 (sC ((up1 (up1 md 0 (upd (md 0) 6 (((md 0) 6) - (((mC (md 0) v 1) + 1) / 2)))) 0 (upd ((up1 md 0 (upd (md 0) 6 (((md 0) 6) - (((mC (md 0) v 1) + 1) / 2)))) 0) 7 ((((up1 md 0 (upd (md 0) 6 (((md 0) 6) - (((mC (md 0) v 1) + 1) / 2)))) 0) 7) + (((mC (md 0) v 1) + 1) / 2)))) 0) v 1 0)) 0) v 3) + (((mC (md 0) v 1) + 1) / 2)))))
          refine lv_aload_n hx hb dX6_drinks_131 rfl (lv_at hl 2 rfl) ?_
          refine lv_aload_n hx hb dX6_drinks_132 rfl (lv_at hl 2 rfl) ?_
          refine gt_X6_9 hc dX6_drinks_133 hM hW.o rfl ?_
          refine lv_bipush (v := 6) hx hb dX6_drinks_136 (by decide) ?_
          refine k_ialdN hc hM (n := 81) (hW.ar 0 (by decide) (by decide) rfl rfl) (X := 6) rfl (by omega) (by decide) dX6_drinks_138 ?_
          refine k_V1 hc [.int (((up1 (up1 (up1 (up1 md 0 (upd (md 0) 6 (((md 0) 6) - (((mC (md 0) v 1) + 1) / 2)))) 0 (upd ((up1 md 0 (upd (md 0) 6 (((md 0) 6) - (((mC (md 0) v 1) + 1) / 2)))) 0) 7 ((((up1 md 0 (upd (md 0) 6 (((md 0) 6) - (((mC (md 0) v 1) + 1) / 2)))) 0) 7) + (((mC (md 0) v 1) + 1) / 2)))) 0 (sC ((up1 (up1 md 0 (upd (md 0) 6 (((md 0) 6) - (((mC (md 0) v 1) + 1) / 2)))) 0 (upd ((up1 md 0 (upd (md 0) 6 (((md 0) 6) - (((mC (md 0) v 1) + 1) / 2)))) 0) 7 ((((up1 md 0 (upd (md 0) 6 (((md 0) 6) - (((mC (md 0) v 1) + 1) / 2)))) 0) 7) + (((mC (md 0) v 1) + 1) / 2)))) 0) v 1 0)) 0 (sC ((up1 (up1 (up1 md 0 (upd (md 0) 6 (((md 0) 6) - (((mC (md 0) v 1) + 1) / 2)))) 0 (upd ((up1 md 0 (upd (md 0) 6 (((md 0) 6) - (((mC (md 0) v 1) + 1) / 2)))) 0) 7 ((((up1 md 0 (upd (md 0) 6 (((md 0) 6) - (((mC (md 0) v 1) + 1) / 2)))) 0) 7) + (((mC (md 0) v 1) + 1) / 2)))) 0 (sC ((up1 (up1 md 0 (upd (md 0) 6 (((md 0) 6) - (((mC (md 0) v 1) + 1) / 2)))) 0 (upd ((up1 md 0 (upd (md 0) 6 (((md 0) 6) - (((mC (md 0) v 1) + 1) / 2)))) 0) 7 ((((up1 md 0 (upd (md 0) 6 (((md 0) 6) - (((mC (md 0) v 1) + 1) / 2)))) 0) 7) + (((mC (md 0) v 1) + 1) / 2)))) 0) v 1 0)) 0) v 3 ((mC ((up1 (up1 (up1 md 0 (upd (md 0) 6 (((md 0) 6) - (((mC (md 0) v 1) + 1) / 2)))) 0 (upd ((up1 md 0 (upd (md 0) 6 (((md 0) 6) - (((mC (md 0) v 1) + 1) / 2)))) 0) 7 ((((up1 md 0 (upd (md 0) 6 (((md 0) 6) - (((mC (md 0) v 1) + 1) / 2)))) 0) 7) + (((mC (md 0) v 1) + 1) / 2)))) 0 (sC ((up1 (up1 md 0 (upd (md 0) 6 (((md 0) 6) - (((mC (md 0) v 1) + 1) / 2)))) 0 (upd ((up1 md 0 (upd (md 0) 6 (((md 0) 6) - (((mC (md 0) v 1) + 1) / 2)))) 0) 7 ((((up1 md 0 (upd (md 0) 6 (((md 0) 6) - (((mC (md 0) v 1) + 1) / 2)))) 0) 7) + (((mC (md 0) v 1) + 1) / 2)))) 0) v 1 0)) 0) v 3) + (((mC (md 0) v 1) + 1) / 2)))) 0) 6)] cw_X6_119 rfl dX6_drinks_139 (c_X6_does l hlf g _ q (up1 (up1 (up1 (up1 md 0 (upd (md 0) 6 (((md 0) 6) - (((mC (md 0) v 1) + 1) / 2)))) 0 (upd ((up1 md 0 (upd (md 0) 6 (((md 0) 6) - (((mC (md 0) v 1) + 1) / 2)))) 0) 7 ((((up1 md 0 (upd (md 0) 6 (((md 0) 6) - (((mC (md 0) v 1) + 1) / 2)))) 0) 7) + (((mC (md 0) v 1) + 1) / 2)))) 0 (sC ((up1 (up1 md 0 (upd (md 0) 6 (((md 0) 6) - (((mC (md 0) v 1) + 1) / 2)))) 0 (upd ((up1 md 0 (upd (md 0) 6 (((md 0) 6) - (((mC (md 0) v 1) + 1) / 2)))) 0) 7 ((((up1 md 0 (upd (md 0) 6 (((md 0) 6) - (((mC (md 0) v 1) + 1) / 2)))) 0) 7) + (((mC (md 0) v 1) + 1) / 2)))) 0) v 1 0)) 0 (sC ((up1 (up1 (up1 md 0 (upd (md 0) 6 (((md 0) 6) - (((mC (md 0) v 1) + 1) / 2)))) 0 (upd ((up1 md 0 (upd (md 0) 6 (((md 0) 6) - (((mC (md 0) v 1) + 1) / 2)))) 0) 7 ((((up1 md 0 (upd (md 0) 6 (((md 0) 6) - (((mC (md 0) v 1) + 1) / 2)))) 0) 7) + (((mC (md 0) v 1) + 1) / 2)))) 0 (sC ((up1 (up1 md 0 (upd (md 0) 6 (((md 0) 6) - (((mC (md 0) v 1) + 1) / 2)))) 0 (upd ((up1 md 0 (upd (md 0) 6 (((md 0) 6) - (((mC (md 0) v 1) + 1) / 2)))) 0) 7 ((((up1 md 0 (upd (md 0) 6 (((md 0) 6) - (((mC (md 0) v 1) + 1) / 2)))) 0) 7) + (((mC (md 0) v 1) + 1) / 2)))) 0) v 1 0)) 0) v 3 ((mC ((up1 (up1 (up1 md 0 (upd (md 0) 6 (((md 0) 6) - (((mC (md 0) v 1) + 1) / 2)))) 0 (upd ((up1 md 0 (upd (md 0) 6 (((md 0) 6) - (((mC (md 0) v 1) + 1) / 2)))) 0) 7 ((((up1 md 0 (upd (md 0) 6 (((md 0) 6) - (((mC (md 0) v 1) + 1) / 2)))) 0) 7) + (((mC (md 0) v 1) + 1) / 2)))) 0 (sC ((up1 (up1 md 0 (upd (md 0) 6 (((md 0) 6) - (((mC (md 0) v 1) + 1) / 2)))) 0 (upd ((up1 md 0 (upd (md 0) 6 (((md 0) 6) - (((mC (md 0) v 1) + 1) / 2)))) 0) 7 ((((up1 md 0 (upd (md 0) 6 (((md 0) 6) - (((mC (md 0) v 1) + 1) / 2)))) 0) 7) + (((mC (md 0) v 1) + 1) / 2)))) 0) v 1 0)) 0) v 3) + (((mC (md 0) v 1) + 1) / 2)))) (((up1 (up1 (up1 (up1 md 0 (upd (md 0) 6 (((md 0) 6) - (((mC (md 0) v 1) + 1) / 2)))) 0 (upd ((up1 md 0 (upd (md 0) 6 (((md 0) 6) - (((mC (md 0) v 1) + 1) / 2)))) 0) 7 ((((up1 md 0 (upd (md 0) 6 (((md 0) 6) - (((mC (md 0) v 1) + 1) / 2)))) 0) 7) + (((mC (md 0) v 1) + 1) / 2)))) 0 (sC ((up1 (up1 md 0 (upd (md 0) 6 (((md 0) 6) - (((mC (md 0) v 1) + 1) / 2)))) 0 (upd ((up1 md 0 (upd (md 0) 6 (((md 0) 6) - (((mC (md 0) v 1) + 1) / 2)))) 0) 7 ((((up1 md 0 (upd (md 0) 6 (((md 0) 6) - (((mC (md 0) v 1) + 1) / 2)))) 0) 7) + (((mC (md 0) v 1) + 1) / 2)))) 0) v 1 0)) 0 (sC ((up1 (up1 (up1 md 0 (upd (md 0) 6 (((md 0) 6) - (((mC (md 0) v 1) + 1) / 2)))) 0 (upd ((up1 md 0 (upd (md 0) 6 (((md 0) 6) - (((mC (md 0) v 1) + 1) / 2)))) 0) 7 ((((up1 md 0 (upd (md 0) 6 (((md 0) 6) - (((mC (md 0) v 1) + 1) / 2)))) 0) 7) + (((mC (md 0) v 1) + 1) / 2)))) 0 (sC ((up1 (up1 md 0 (upd (md 0) 6 (((md 0) 6) - (((mC (md 0) v 1) + 1) / 2)))) 0 (upd ((up1 md 0 (upd (md 0) 6 (((md 0) 6) - (((mC (md 0) v 1) + 1) / 2)))) 0) 7 ((((up1 md 0 (upd (md 0) 6 (((md 0) 6) - (((mC (md 0) v 1) + 1) / 2)))) 0) 7) + (((mC (md 0) v 1) + 1) / 2)))) 0) v 1 0)) 0) v 3 ((mC ((up1 (up1 (up1 md 0 (upd (md 0) 6 (((md 0) 6) - (((mC (md 0) v 1) + 1) / 2)))) 0 (upd ((up1 md 0 (upd (md 0) 6 (((md 0) 6) - (((mC (md 0) v 1) + 1) / 2)))) 0) 7 ((((up1 md 0 (upd (md 0) 6 (((md 0) 6) - (((mC (md 0) v 1) + 1) / 2)))) 0) 7) + (((mC (md 0) v 1) + 1) / 2)))) 0 (sC ((up1 (up1 md 0 (upd (md 0) 6 (((md 0) 6) - (((mC (md 0) v 1) + 1) / 2)))) 0 (upd ((up1 md 0 (upd (md 0) 6 (((md 0) 6) - (((mC (md 0) v 1) + 1) / 2)))) 0) 7 ((((up1 md 0 (upd (md 0) 6 (((md 0) 6) - (((mC (md 0) v 1) + 1) / 2)))) 0) 7) + (((mC (md 0) v 1) + 1) / 2)))) 0) v 1 0)) 0) v 3) + (((mC (md 0) v 1) + 1) / 2)))) 0) 6) hW) hW.o hM hS hl.1 rfl rfl ⟨Nat.le_of_ble_eq_true rfl, Nat.le_of_ble_eq_true rfl⟩ ⟨Nat.le_of_ble_eq_true rfl, Nat.le_of_ble_eq_true rfl⟩ (Nat.le_of_ble_eq_true rfl) (fun H locs hM hS => ?_)
          have hM := hR.eq hM putD_putD
          have hW := MdAt.put (g := g) (M := M) (m := q) (md := (up2 (up1 (up1 (up1 (up1 md 0 (upd (md 0) 6 (((md 0) 6) - (((mC (md 0) v 1) + 1) / 2)))) 0 (upd ((up1 md 0 (upd (md 0) 6 (((md 0) 6) - (((mC (md 0) v 1) + 1) / 2)))) 0) 7 ((((up1 md 0 (upd (md 0) 6 (((md 0) 6) - (((mC (md 0) v 1) + 1) / 2)))) 0) 7) + (((mC (md 0) v 1) + 1) / 2)))) 0 (sC ((up1 (up1 md 0 (upd (md 0) 6 (((md 0) 6) - (((mC (md 0) v 1) + 1) / 2)))) 0 (upd ((up1 md 0 (upd (md 0) 6 (((md 0) 6) - (((mC (md 0) v 1) + 1) / 2)))) 0) 7 ((((up1 md 0 (upd (md 0) 6 (((md 0) 6) - (((mC (md 0) v 1) + 1) / 2)))) 0) 7) + (((mC (md 0) v 1) + 1) / 2)))) 0) v 1 0)) 0 (sC ((up1 (up1 (up1 md 0 (upd (md 0) 6 (((md 0) 6) - (((mC (md 0) v 1) + 1) / 2)))) 0 (upd ((up1 md 0 (upd (md 0) 6 (((md 0) 6) - (((mC (md 0) v 1) + 1) / 2)))) 0) 7 ((((up1 md 0 (upd (md 0) 6 (((md 0) 6) - (((mC (md 0) v 1) + 1) / 2)))) 0) 7) + (((mC (md 0) v 1) + 1) / 2)))) 0 (sC ((up1 (up1 md 0 (upd (md 0) 6 (((md 0) 6) - (((mC (md 0) v 1) + 1) / 2)))) 0 (upd ((up1 md 0 (upd (md 0) 6 (((md 0) 6) - (((mC (md 0) v 1) + 1) / 2)))) 0) 7 ((((up1 md 0 (upd (md 0) 6 (((md 0) 6) - (((mC (md 0) v 1) + 1) / 2)))) 0) 7) + (((mC (md 0) v 1) + 1) / 2)))) 0) v 1 0)) 0) v 3 ((mC ((up1 (up1 (up1 md 0 (upd (md 0) 6 (((md 0) 6) - (((mC (md 0) v 1) + 1) / 2)))) 0 (upd ((up1 md 0 (upd (md 0) 6 (((md 0) 6) - (((mC (md 0) v 1) + 1) / 2)))) 0) 7 ((((up1 md 0 (upd (md 0) 6 (((md 0) 6) - (((mC (md 0) v 1) + 1) / 2)))) 0) 7) + (((mC (md 0) v 1) + 1) / 2)))) 0 (sC ((up1 (up1 md 0 (upd (md 0) 6 (((md 0) 6) - (((mC (md 0) v 1) + 1) / 2)))) 0 (upd ((up1 md 0 (upd (md 0) 6 (((md 0) 6) - (((mC (md 0) v 1) + 1) / 2)))) 0) 7 ((((up1 md 0 (upd (md 0) 6 (((md 0) 6) - (((mC (md 0) v 1) + 1) / 2)))) 0) 7) + (((mC (md 0) v 1) + 1) / 2)))) 0) v 1 0)) 0) v 3) + (((mC (md 0) v 1) + 1) / 2)))) 7 18 (((up1 (up1 (up1 (up1 md 0 (upd (md 0) 6 (((md 0) 6) - (((mC (md 0) v 1) + 1) / 2)))) 0 (upd ((up1 md 0 (upd (md 0) 6 (((md 0) 6) - (((mC (md 0) v 1) + 1) / 2)))) 0) 7 ((((up1 md 0 (upd (md 0) 6 (((md 0) 6) - (((mC (md 0) v 1) + 1) / 2)))) 0) 7) + (((mC (md 0) v 1) + 1) / 2)))) 0 (sC ((up1 (up1 md 0 (upd (md 0) 6 (((md 0) 6) - (((mC (md 0) v 1) + 1) / 2)))) 0 (upd ((up1 md 0 (upd (md 0) 6 (((md 0) 6) - (((mC (md 0) v 1) + 1) / 2)))) 0) 7 ((((up1 md 0 (upd (md 0) 6 (((md 0) 6) - (((mC (md 0) v 1) + 1) / 2)))) 0) 7) + (((mC (md 0) v 1) + 1) / 2)))) 0) v 1 0)) 0 (sC ((up1 (up1 (up1 md 0 (upd (md 0) 6 (((md 0) 6) - (((mC (md 0) v 1) + 1) / 2)))) 0 (upd ((up1 md 0 (upd (md 0) 6 (((md 0) 6) - (((mC (md 0) v 1) + 1) / 2)))) 0) 7 ((((up1 md 0 (upd (md 0) 6 (((md 0) 6) - (((mC (md 0) v 1) + 1) / 2)))) 0) 7) + (((mC (md 0) v 1) + 1) / 2)))) 0 (sC ((up1 (up1 md 0 (upd (md 0) 6 (((md 0) 6) - (((mC (md 0) v 1) + 1) / 2)))) 0 (upd ((up1 md 0 (upd (md 0) 6 (((md 0) 6) - (((mC (md 0) v 1) + 1) / 2)))) 0) 7 ((((up1 md 0 (upd (md 0) 6 (((md 0) 6) - (((mC (md 0) v 1) + 1) / 2)))) 0) 7) + (((mC (md 0) v 1) + 1) / 2)))) 0) v 1 0)) 0) v 3 ((mC ((up1 (up1 (up1 md 0 (upd (md 0) 6 (((md 0) 6) - (((mC (md 0) v 1) + 1) / 2)))) 0 (upd ((up1 md 0 (upd (md 0) 6 (((md 0) 6) - (((mC (md 0) v 1) + 1) / 2)))) 0) 7 ((((up1 md 0 (upd (md 0) 6 (((md 0) 6) - (((mC (md 0) v 1) + 1) / 2)))) 0) 7) + (((mC (md 0) v 1) + 1) / 2)))) 0 (sC ((up1 (up1 md 0 (upd (md 0) 6 (((md 0) 6) - (((mC (md 0) v 1) + 1) / 2)))) 0 (upd ((up1 md 0 (upd (md 0) 6 (((md 0) 6) - (((mC (md 0) v 1) + 1) / 2)))) 0) 7 ((((up1 md 0 (upd (md 0) 6 (((md 0) 6) - (((mC (md 0) v 1) + 1) / 2)))) 0) 7) + (((mC (md 0) v 1) + 1) / 2)))) 0) v 1 0)) 0) v 3) + (((mC (md 0) v 1) + 1) / 2)))) 0) 6)))
          exact k_zret hc hr dX6_drinks_142 hM hS (by first | rfl | exact bI_n) (Nat.le_of_ble_eq_true rfl) (Nat.le_of_ble_eq_true rfl) (by first | rfl | (simp only [drM, eq_true c_5, eq_false c_20, eq_false c_44, eq_true c_69, eq_self, bM_l, bM_r, rsM_l, rsM_r, seV_l, seV_r, snE_l, snE_r, up1_at, up1_up1, up2_up2, not_false_eq_true, not_true_eq_false, and_true, true_and, and_false, false_and, and_self, ↓reduceIte, or_true, true_or, or_self, or_false, false_or]; done) | (simp only [drM, eq_true c_5, eq_false c_20, eq_false c_44, eq_true c_69, eq_self, bM_l, bM_r, rsM_l, rsM_r, seV_l, seV_r, snE_l, snE_r, up1_at, up1_up1, up2_up2, not_false_eq_true, not_true_eq_false, and_true, true_and, and_false, false_and, and_self, ↓reduceIte, or_true, true_or, or_self, or_false, false_or]; rfl))
        · skip
          refine lv_aload_n hx hb dX6_drinks_72 rfl (lv_at hl 2 rfl) ?_
          refine lv_bipush (v := 9) hx hb dX6_drinks_73 (by decide) ?_
          refine lv_iload_n hx hb dX6_drinks_75 rfl (lv_at hl 0 rfl) ?_
          refine lv_aload_n hx hb dX6_drinks_76 rfl (lv_at hl 2 rfl) ?_
          refine gt_X6_9 hc dX6_drinks_77 hM hW.o rfl ?_
          refine lv_bipush (v := 6) hx hb dX6_drinks_80 (by decide) ?_
          refine k_ialdN hc hM (n := 81) (hW.ar 0 (by decide) (by decide) rfl rfl) (X := 6) rfl (by omega) (by decide) dX6_drinks_82 ?_
          refine lv_isub hx hb dX6_drinks_83 ?_
          refine k_V1 hc [.int 9, .int ((((mC (md 0) v 1) + 1) / 2) - ((md 0) 6))] cw_X6_80 rfl dX6_drinks_84 (c_X6_refuses l hlf g _ q md 9 ((((mC (md 0) v 1) + 1) / 2) - ((md 0) 6)) hW) hW.o hM hS hl.1 rfl rfl ⟨Nat.le_of_ble_eq_true rfl, Nat.le_of_ble_eq_true rfl⟩ ⟨Nat.le_of_ble_eq_true rfl, Nat.le_of_ble_eq_true rfl⟩ (Nat.le_of_ble_eq_true rfl) (fun H locs hM hS => ?_)
          have hW := MdAt.put (g := g) (M := M) (m := q) (md := (rfM md 9 ((((mC (md 0) v 1) + 1) / 2) - ((md 0) 6))))
          exact k_zret hc hr dX6_drinks_87 hM hS (by first | rfl | exact bI_n) (Nat.le_of_ble_eq_true rfl) (Nat.le_of_ble_eq_true rfl) (by first | rfl | (simp only [drM, eq_true c_5, eq_false c_20, eq_false c_44, eq_false c_69, eq_self, bM_l, bM_r, rsM_l, rsM_r, seV_l, seV_r, snE_l, snE_r, up1_at, up1_up1, up2_up2, not_false_eq_true, not_true_eq_false, and_true, true_and, and_false, false_and, and_self, ↓reduceIte, or_true, true_or, or_self, or_false, false_or]; done) | (simp only [drM, eq_true c_5, eq_false c_20, eq_false c_44, eq_false c_69, eq_self, bM_l, bM_r, rsM_l, rsM_r, seV_l, seV_r, snE_l, snE_r, up1_at, up1_up1, up2_up2, not_false_eq_true, not_true_eq_false, and_true, true_and, and_false, false_and, and_self, ↓reduceIte, or_true, true_or, or_self, or_false, false_or]; rfl))
      · skip
        refine lv_aload_n hx hb dX6_drinks_47 rfl (lv_at hl 1 rfl) ?_
        refine lv_bipush (v := 10) hx hb dX6_drinks_48 (by decide) ?_
        refine lv_iload_n hx hb dX6_drinks_50 rfl (lv_at hl 2 rfl) ?_
        refine k_V1 hc [.int 10, .int v] cw_X6_80 rfl dX6_drinks_51 (c_X6_refuses l hlf g _ q md 10 v hW) hW.o hM hS hl.1 rfl rfl ⟨Nat.le_of_ble_eq_true rfl, Nat.le_of_ble_eq_true rfl⟩ ⟨Nat.le_of_ble_eq_true rfl, Nat.le_of_ble_eq_true rfl⟩ (Nat.le_of_ble_eq_true rfl) (fun H locs hM hS => ?_)
        have hW := MdAt.put (g := g) (M := M) (m := q) (md := (rfM md 10 v))
        exact k_zret hc hr dX6_drinks_54 hM hS (by first | rfl | exact bI_n) (Nat.le_of_ble_eq_true rfl) (Nat.le_of_ble_eq_true rfl) (by first | rfl | (simp only [drM, eq_true c_5, eq_false c_20, eq_true c_44, eq_self, bM_l, bM_r, rsM_l, rsM_r, seV_l, seV_r, snE_l, snE_r, up1_at, up1_up1, up2_up2, not_false_eq_true, not_true_eq_false, and_true, true_and, and_false, false_and, and_self, ↓reduceIte, or_true, true_or, or_self, or_false, false_or]; done) | (simp only [drM, eq_true c_5, eq_false c_20, eq_true c_44, eq_self, bM_l, bM_r, rsM_l, rsM_r, seV_l, seV_r, snE_l, snE_r, up1_at, up1_up1, up2_up2, not_false_eq_true, not_true_eq_false, and_true, true_and, and_false, false_and, and_self, ↓reduceIte, or_true, true_or, or_self, or_false, false_or]; rfl))
    · skip
      have c_20 := bI_ne.mp c_20
      refine lv_aload_n hx hb dX6_drinks_23 rfl (lv_at hl 0 rfl) ?_
      refine lv_bipush (v := 8) hx hb dX6_drinks_24 (by decide) ?_
      refine lv_aload_n hx hb dX6_drinks_26 rfl (lv_at hl 0 rfl) ?_
      refine lv_iload_n hx hb dX6_drinks_27 rfl (lv_at hl 1 rfl) ?_
      refine lv_iconst (v := 0) hx hb dX6_drinks_28 (by decide) ?_
      refine k_V1 hc [.int v, .int 0] cw_X6_68 rfl dX6_drinks_29 (c_X6_ofCamel l hlf g _ q md v 0 hW (by first | assumption | decide) (by first | assumption | decide)) hW.o hM hS hl.1 rfl rfl ⟨Nat.le_of_ble_eq_true rfl, Nat.le_of_ble_eq_true rfl⟩ ⟨Nat.le_of_ble_eq_true rfl, Nat.le_of_ble_eq_true rfl⟩ (Nat.le_of_ble_eq_true rfl) (fun H locs hM hS => ?_)
      refine k_V1 hc [.int 8, .int (mC (md 0) v 0)] cw_X6_80 rfl dX6_drinks_32 (c_X6_refuses l hlf g _ q md 8 (mC (md 0) v 0) hW) hW.o hM hS hl.1 rfl rfl ⟨Nat.le_of_ble_eq_true rfl, Nat.le_of_ble_eq_true rfl⟩ ⟨Nat.le_of_ble_eq_true rfl, Nat.le_of_ble_eq_true rfl⟩ (Nat.le_of_ble_eq_true rfl) (fun H locs hM hS => ?_)
      have hW := MdAt.put (g := g) (M := M) (m := q) (md := (rfM md 8 (mC (md 0) v 0)))
      exact k_zret hc hr dX6_drinks_35 hM hS (by first | rfl | exact bI_n) (Nat.le_of_ble_eq_true rfl) (Nat.le_of_ble_eq_true rfl) (by first | rfl | (simp only [drM, eq_true c_5, eq_true c_20, eq_self, bM_l, bM_r, rsM_l, rsM_r, seV_l, seV_r, snE_l, snE_r, up1_at, up1_up1, up2_up2, not_false_eq_true, not_true_eq_false, and_true, true_and, and_false, false_and, and_self, ↓reduceIte, or_true, true_or, or_self, or_false, false_or]; done) | (simp only [drM, eq_true c_5, eq_true c_20, eq_self, bM_l, bM_r, rsM_l, rsM_r, seV_l, seV_r, snE_l, snE_r, up1_at, up1_up1, up2_up2, not_false_eq_true, not_true_eq_false, and_true, true_and, and_false, false_and, and_self, ↓reduceIte, or_true, true_or, or_self, or_false, false_or]; rfl))
  · skip
    have c_5 := bI_eq.mp c_5
    refine lv_aload_n hx hb dX6_drinks_8 rfl (lv_at hl 0 rfl) ?_
    refine lv_iconst (v := 3) hx hb dX6_drinks_9 (by decide) ?_
    refine lv_iload_n hx hb dX6_drinks_10 rfl (lv_at hl 1 rfl) ?_
    refine k_V1 hc [.int 3, .int v] cw_X6_80 rfl dX6_drinks_11 (c_X6_refuses l hlf g _ q md 3 v hW) hW.o hM hS hl.1 rfl rfl ⟨Nat.le_of_ble_eq_true rfl, Nat.le_of_ble_eq_true rfl⟩ ⟨Nat.le_of_ble_eq_true rfl, Nat.le_of_ble_eq_true rfl⟩ (Nat.le_of_ble_eq_true rfl) (fun H locs hM hS => ?_)
    have hW := MdAt.put (g := g) (M := M) (m := q) (md := (rfM md 3 v))
    exact k_zret hc hr dX6_drinks_14 hM hS (by first | rfl | exact bI_n) (Nat.le_of_ble_eq_true rfl) (Nat.le_of_ble_eq_true rfl) (by first | rfl | (simp only [drM, eq_false c_5, eq_self, bM_l, bM_r, rsM_l, rsM_r, seV_l, seV_r, snE_l, snE_r, up1_at, up1_up1, up2_up2, not_false_eq_true, not_true_eq_false, and_true, true_and, and_false, false_and, and_self, ↓reduceIte, or_true, true_or, or_self, or_false, false_or]; done) | (simp only [drM, eq_false c_5, eq_self, bM_l, bM_r, rsM_l, rsM_r, seV_l, seV_r, snE_l, snE_r, up1_at, up1_up1, up2_up2, not_false_eq_true, not_true_eq_false, and_true, true_and, and_false, false_and, and_self, ↓reduceIte, or_true, true_or, or_self, or_false, false_or]; rfl))
set_option maxHeartbeats 4000000 in
set_option maxRecDepth 100000 in
theorem c_X6_passes (l : Launch) (hlf : l.stackTraces = false) (g : GC) (M : HM) (q : Nat) (md : FL) (v : Int32) (hW : MdAt g M q md) (hI : mOk (md 0)) : KM g l yX6_passes cX6_passes 6 (some .boolean) 6 0 0 [.ref q, .int v] M (.inl (some (.int (bM (paM (md 0) v))), (putD g M q (rsM md (paM (md 0) v))))) := by
  refine k_meth hlf (by decide) (Nat.le_of_ble_eq_true rfl) fun p e s m below meth c ls hc hr hnx hM hS hl => ?_
  have hc : Cx g p l s m [.ref q, .int v].toArray meth c cX6_passes 6 RX6 := hc
  have hx := hc.1
  have hb := hc.2.1
  have hl : lv_has ls 6 [(0, .ref q), (1, .int v)] := hl
  refine lv_iload_n hx hb dX6_passes_0 rfl (lv_at hl 1 rfl) ?_
  refine lv_iconst (v := 1) hx hb dX6_passes_1 (by decide) ?_
  refine lv_bipush (v := 48) hx hb dX6_passes_2 (by decide) ?_
  refine k_S1 hc [.int v, .int 1, .int 48] cw_X6_64 dX6_passes_4 (c_X6_in l hlf g _ v 1 48) hM hS hl.1 rfl rfl ⟨Nat.le_of_ble_eq_true rfl, Nat.le_of_ble_eq_true rfl⟩ ⟨Nat.le_of_ble_eq_true rfl, Nat.le_of_ble_eq_true rfl⟩ (Nat.le_of_ble_eq_true rfl) (fun H locs hM hS => ?_)
  refine lv_if_ne (tgt := 17) hx hb dX6_passes_7 (by decide) (fun c_7 => ?_) (fun c_7 => ?_)
  · skip
    have c_7 := bI_ne.mp c_7
    refine lv_iconst (v := 0) hx hb dX6_passes_17 (by decide) ?_
    refine lv_istore_n (lv' := [(2, .int 0), (0, .ref q), (1, .int v)]) hx hb dX6_passes_18 rfl hl (by decide) rfl (fun ls hl => ?_)
    refine lv_iconst (v := 0) hx hb dX6_passes_19 (by decide) ?_
    refine lv_istore_n (lv' := [(3, .int 0), (2, .int 0), (0, .ref q), (1, .int v)]) hx hb dX6_passes_20 rfl hl (by decide) rfl (fun ls hl => ?_)
    have lp_21 : ∀ (D k : Nat), v.toNatClampNeg - k < D → k ≤ v.toNatClampNeg → ∀ (ls : Array Slot) (H : Heap) (locs : List Loc), hR g (putD g M q (up1 md 0 (itr paS (0, (md 0)) k).2)) H → va_S (gA g) s.heap H locs → lv_has ls 6 [(3, .int (nI k)), (2, .int (itr paS (0, (md 0)) k).1), (0, .ref q), (1, .int v)] → W p l e (rmOf 6 0 0) s m [.ref q, .int v].toArray below meth c H locs 0 0 (vx_MQ below (KQ g (.inl (some (.int (bM (paM (md 0) v))), (putD g M q (rsM md (paM (md 0) v)))))) (KX g (.inl (some (.int (bM (paM (md 0) v))), (putD g M q (rsM md (paM (md 0) v)))))) [.ref q, .int v].toArray s 0 0 (gA g)) (F0 m 21 ls []) := by
      intro D
      induction D with
      | zero => intro k hD; exact absurd hD (Nat.not_lt_zero _)
      | succ D ih_21 =>
        intro k hD hk ls H locs hM hS hl
        have hW := MdAt.put (g := g) (M := M) (m := q) (md := (up1 md 0 (itr paS (0, (md 0)) k).2))
        refine lv_iload_n hx hb dX6_passes_21 rfl (lv_at hl 0 rfl) ?_
        refine lv_iload_n hx hb dX6_passes_22 rfl (lv_at hl 3 rfl) ?_
        refine lv_icmp_ge (tgt := 211) hx hb dX6_passes_23 (by decide) (fun c_23 => ?_) (fun c_23 => ?_)
        · skip
          have c_23 := (k_le (by have := k_clamp_lt v; omega)).mp c_23
          refine lv_aload_n hx hb dX6_passes_211 rfl (lv_at hl 2 rfl) ?_
          refine lv_iload_n hx hb dX6_passes_212 rfl (lv_at hl 1 rfl) ?_
          refine k_V1 hc [.int (itr paS (0, (md 0)) k).1] cw_X6_119 rfl dX6_passes_213 (c_X6_does l hlf g _ q (up1 md 0 (itr paS (0, (md 0)) k).2) ((itr paS (0, (md 0)) k).1) hW) hW.o hM hS hl.1 rfl rfl ⟨Nat.le_of_ble_eq_true rfl, Nat.le_of_ble_eq_true rfl⟩ ⟨Nat.le_of_ble_eq_true rfl, Nat.le_of_ble_eq_true rfl⟩ (Nat.le_of_ble_eq_true rfl) (fun H locs hM hS => ?_)
          have hM := hR.eq hM putD_putD
          have hW := MdAt.put (g := g) (M := M) (m := q) (md := (up2 (up1 md 0 (itr paS (0, (md 0)) k).2) 7 18 ((itr paS (0, (md 0)) k).1)))
          exact k_zret hc hr dX6_passes_216 hM hS (by first | rfl | exact bI_n) (Nat.le_of_ble_eq_true rfl) (Nat.le_of_ble_eq_true rfl) (by rw [show k = v.toNatClampNeg by omega]; simp only [paM, eq_true c_7, eq_true c_23, eq_self, bM_l, bM_r, rsM_l, rsM_r, seV_l, seV_r, snE_l, snE_r, up1_at, up1_up1, up2_up2, not_false_eq_true, not_true_eq_false, and_true, true_and, and_false, false_and, and_self, ↓reduceIte, or_true, true_or, or_self, or_false, false_or]; rfl)
        · skip
          have c_23 : ¬ v.toNatClampNeg ≤ k := fun h => c_23 ((k_le (by have := k_clamp_lt v; omega)).mpr h)
          refine lv_aload_n hx hb dX6_passes_26 rfl (lv_at hl 2 rfl) ?_
          refine lv_iconst (v := 0) hx hb dX6_passes_27 (by decide) ?_
          refine k_V1 hc [.int 0] cw_X6_88 rfl dX6_passes_28 (c_X6_heatBehind l hlf g _ q (up1 md 0 (itr paS (0, (md 0)) k).2) 0 hW) hW.o hM hS hl.1 rfl rfl ⟨Nat.le_of_ble_eq_true rfl, Nat.le_of_ble_eq_true rfl⟩ ⟨Nat.le_of_ble_eq_true rfl, Nat.le_of_ble_eq_true rfl⟩ (Nat.le_of_ble_eq_true rfl) (fun H locs hM hS => ?_)
          refine lv_istore (lv' := [(4, .int (mHb ((up1 md 0 (itr paS (0, (md 0)) k).2) 0) 0)), (3, .int (nI k)), (2, .int (itr paS (0, (md 0)) k).1), (0, .ref q), (1, .int v)]) hx hb dX6_passes_31 hl (by decide) rfl (fun ls hl => ?_)
          refine lv_iconst (v := 0) hx hb dX6_passes_33 (by decide) ?_
          refine lv_istore (lv' := [(5, .int 0), (4, .int (mHb ((up1 md 0 (itr paS (0, (md 0)) k).2) 0) 0)), (3, .int (nI k)), (2, .int (itr paS (0, (md 0)) k).1), (0, .ref q), (1, .int v)]) hx hb dX6_passes_34 hl (by decide) rfl (fun ls hl => ?_)
          have lp_36 : ∀ (D j : Nat), (((itr paS (0, (md 0)) k).2 5).toNatClampNeg) - j < D → j ≤ ((itr paS (0, (md 0)) k).2 5).toNatClampNeg → ∀ (ls : Array Slot) (H : Heap) (locs : List Loc), hR g (putD g M q (up1 md 0 (itr (p1S (mHb (itr paS (0, (md 0)) k).2 0)) (itr paS (0, (md 0)) k) j).2)) H → va_S (gA g) s.heap H locs → lv_has ls 6 [(5, .int (nI j)), (4, .int (mHb ((up1 md 0 (itr paS (0, (md 0)) k).2) 0) 0)), (3, .int (nI k)), (2, .int (itr (p1S (mHb (itr paS (0, (md 0)) k).2 0)) (itr paS (0, (md 0)) k) j).1), (0, .ref q), (1, .int v)] → W p l e (rmOf 6 0 0) s m [.ref q, .int v].toArray below meth c H locs 0 0 (vx_MQ below (KQ g (.inl (some (.int (bM (paM (md 0) v))), (putD g M q (rsM md (paM (md 0) v)))))) (KX g (.inl (some (.int (bM (paM (md 0) v))), (putD g M q (rsM md (paM (md 0) v)))))) [.ref q, .int v].toArray s 0 0 (gA g)) (F0 m 36 ls []) := by
            intro D
            induction D with
            | zero => intro j hD; exact absurd hD (Nat.not_lt_zero _)
            | succ D ih_36 =>
              intro j hD hk ls H locs hM hS hl
              have hW := MdAt.put (g := g) (M := M) (m := q) (md := (up1 md 0 (itr (p1S (mHb (itr paS (0, (md 0)) k).2 0)) (itr paS (0, (md 0)) k) j).2))
              refine lv_iload hx hb dX6_passes_36 (lv_at hl 0 rfl) ?_
              refine lv_aload_n hx hb dX6_passes_38 rfl (lv_at hl 4 rfl) ?_
              refine gt_X6_9 hc dX6_passes_39 hM hW.o rfl ?_
              refine lv_iconst (v := 5) hx hb dX6_passes_42 (by decide) ?_
              refine k_ialdN hc hM (n := 81) (hW.ar 0 (by decide) (by decide) rfl rfl) (X := 5) rfl (by omega) (by decide) dX6_passes_43 ?_
              refine lv_icmp_ge (tgt := 101) hx hb dX6_passes_44 (by decide) (fun c_44 => ?_) (fun c_44 => ?_)
              · skip
                rw [up1_at, p1_lo (by have := clamp6 (pa_ok hI (n := 0) k).2.2.2; omega) (by decide)] at c_44
                have c_44 := (k_le (by have := k_clamp_lt ((itr paS (0, (md 0)) k).2 5); omega)).mp c_44
                have hj5 : j = ((itr paS (0, (md 0)) k).2 5).toNatClampNeg := by omega
                subst hj5
                have hM : hR g (putD g M q (up1 md 0 (p1M (itr paS (0, (md 0)) k)).2)) H := hM
                have hl : lv_has ls 6 [(5, .int (nI ((itr paS (0, (md 0)) k).2 5).toNatClampNeg)), (4, .int (mHb ((up1 md 0 (itr paS (0, (md 0)) k).2) 0) 0)), (3, .int (nI k)), (2, .int (p1M (itr paS (0, (md 0)) k)).1), (0, .ref q), (1, .int v)] := hl
                have hW := MdAt.put (g := g) (M := M) (m := q) (md := (up1 md 0 (p1M (itr paS (0, (md 0)) k)).2))
                have h5 : mOk (p1M (itr paS (0, (md 0)) k)).2 := mOk_of (pa_ok hI (n := 0) k) (fun z h2 h6 => p1_lo (clamp6 (pa_ok hI (n := 0) k).2.2.2) (by omega))
                refine lv_iconst (v := 0) hx hb dX6_passes_101 (by decide) ?_
                refine lv_istore (lv' := [(5, .int 0), (4, .int (mHb ((up1 md 0 (itr paS (0, (md 0)) k).2) 0) 0)), (3, .int (nI k)), (2, .int (p1M (itr paS (0, (md 0)) k)).1), (0, .ref q), (1, .int v)]) hx hb dX6_passes_102 hl (by decide) rfl (fun ls hl => ?_)
                have lp_104 : ∀ (D j : Nat), (((p1M (itr paS (0, (md 0)) k)).2 5).toNatClampNeg) - j < D → j ≤ ((p1M (itr paS (0, (md 0)) k)).2 5).toNatClampNeg → (mHb (itr paS (0, (md 0)) k).2 0 < 6 → j = 0) → ∀ (ls : Array Slot) (H : Heap) (locs : List Loc), hR g (putD g M q (up1 md 0 (itr p2S (p1M (itr paS (0, (md 0)) k)).2 j))) H → va_S (gA g) s.heap H locs → lv_has ls 6 [(5, .int (nI j)), (4, .int (mHb ((up1 md 0 (itr paS (0, (md 0)) k).2) 0) 0)), (3, .int (nI k)), (2, .int (p1M (itr paS (0, (md 0)) k)).1), (0, .ref q), (1, .int v)] → W p l e (rmOf 6 0 0) s m [.ref q, .int v].toArray below meth c H locs 0 0 (vx_MQ below (KQ g (.inl (some (.int (bM (paM (md 0) v))), (putD g M q (rsM md (paM (md 0) v)))))) (KX g (.inl (some (.int (bM (paM (md 0) v))), (putD g M q (rsM md (paM (md 0) v)))))) [.ref q, .int v].toArray s 0 0 (gA g)) (F0 m 104 ls []) := by
                  intro D
                  induction D with
                  | zero => intro j hD; exact absurd hD (Nat.not_lt_zero _)
                  | succ D ih_104 =>
                    intro j hD hk h6 ls H locs hM hS hl
                    have hW := MdAt.put (g := g) (M := M) (m := q) (md := (up1 md 0 (itr p2S (p1M (itr paS (0, (md 0)) k)).2 j)))
                    refine lv_iload hx hb dX6_passes_104 (lv_at hl 0 rfl) ?_
                    refine lv_aload_n hx hb dX6_passes_106 rfl (lv_at hl 4 rfl) ?_
                    refine gt_X6_9 hc dX6_passes_107 hM hW.o rfl ?_
                    refine lv_iconst (v := 5) hx hb dX6_passes_110 (by decide) ?_
                    refine k_ialdN hc hM (n := 81) (hW.ar 0 (by decide) (by decide) rfl rfl) (X := 5) rfl (by omega) (by decide) dX6_passes_111 ?_
                    refine lv_icmp_ge (tgt := 195) hx hb dX6_passes_112 (by decide) (fun c_112 => ?_) (fun c_112 => ?_)
                    · skip
                      rw [up1_at, p2_lo (by have := clamp6 h5.2.2.2; omega) (by decide)] at c_112
                      have c_112 := (k_le (by have := k_clamp_lt ((p1M (itr paS (0, (md 0)) k)).2 5); omega)).mp c_112
                      have hj5 : j = ((p1M (itr paS (0, (md 0)) k)).2 5).toNatClampNeg := by omega
                      have hp2 : itr p2S (p1M (itr paS (0, (md 0)) k)).2 j = p2M (mHb (itr paS (0, (md 0)) k).2 0) (p1M (itr paS (0, (md 0)) k)).2 := by unfold p2M; split; (rename_i hh; rw [h6 hh]; rfl); rw [hj5]
                      rw [hp2] at hM
                      have hW := MdAt.put (g := g) (M := M) (m := q) (md := (up1 md 0 (p2M (mHb (itr paS (0, (md 0)) k).2 0) (p1M (itr paS (0, (md 0)) k)).2)))
                      refine lv_aload_n hx hb dX6_passes_195 rfl (lv_at hl 4 rfl) ?_
                      refine gt_X6_9 hc dX6_passes_196 hM hW.o rfl ?_
                      refine lv_iconst (v := 0) hx hb dX6_passes_199 (by decide) ?_
                      refine lv_dup2_11 hx hb dX6_passes_200 rfl rfl ?_
                      refine k_ialdN hc hM (n := 81) (hW.ar 0 (by decide) (by decide) rfl rfl) (X := 0) rfl (by omega) (by decide) dX6_passes_201 ?_
                      refine lv_iconst (v := 1) hx hb dX6_passes_202 (by decide) ?_
                      refine lv_iadd hx hb dX6_passes_203 ?_
                      refine k_iastN hc hM hS (n := 81) (hW.ar 0 (by decide) (by decide) rfl rfl) (X := 0) rfl (by omega) (by decide) dX6_passes_204 (fun H locs hM hS => ?_)
                      have hM := hR.eq hM (putD_ar hW 0 (by decide) (by decide) rfl rfl)
                      have hM := hR.eq hM putD_putD
                      have hW := MdAt.put (g := g) (M := M) (m := q) (md := (up1 (up1 md 0 (p2M (mHb (itr paS (0, (md 0)) k).2 0) (p1M (itr paS (0, (md 0)) k)).2)) 0 (upd ((up1 md 0 (p2M (mHb (itr paS (0, (md 0)) k).2 0) (p1M (itr paS (0, (md 0)) k)).2)) 0) 0 ((((up1 md 0 (p2M (mHb (itr paS (0, (md 0)) k).2 0) (p1M (itr paS (0, (md 0)) k)).2)) 0) 0) + 1))))
                      refine lv_iinc (v := (nI (k + 1))) (lv' := [(3, .int (nI (k + 1))), (5, .int (nI j)), (4, .int (mHb ((up1 md 0 (itr paS (0, (md 0)) k).2) 0) 0)), (2, .int (p1M (itr paS (0, (md 0)) k)).1), (0, .ref q), (1, .int v)]) hx hb dX6_passes_205 hl (k := 2) rfl (k_inc1 _) (by decide) rfl (fun ls hl => ?_)
                      refine lv_goto (tgt := 21) hx hb dX6_passes_208 (by decide) ?_
                      have z_2 : (p1M (itr paS (0, (md 0)) k)).1 = (itr paS (0, (md 0)) (k + 1)).1 := rfl
                      have hl := lv_chg (lv_sub hl [3, 0, 1, 2, 4, 5] rfl) z_2
                      have hM : hR g (putD g M q (up1 md 0 (itr paS (0, (md 0)) (k + 1)).2)) _ := hR.eq hM (congrArg (putD g M q) (by rw [up1_up1, up1_at]; rfl))
                      exact ih_21 (k + 1) (by omega) (by omega) ls _ _ hM hS (lv_sub hl [1, 0, 4, 5] rfl)
                    · skip
                      rw [up1_at, p2_lo (by have := clamp6 h5.2.2.2; omega) (by decide)] at c_112
                      have c_112 : ¬ ((p1M (itr paS (0, (md 0)) k)).2 5).toNatClampNeg ≤ j := fun h => c_112 ((k_le (by have := k_clamp_lt ((p1M (itr paS (0, (md 0)) k)).2 5); omega)).mpr h)
                      have ok_112 := kC_ok h5 c_112
                      refine lv_iload hx hb dX6_passes_115 (lv_at hl 1 rfl) ?_
                      refine lv_bipush (v := 6) hx hb dX6_passes_117 (by decide) ?_
                      refine lv_icmp_lt (tgt := 195) hx hb dX6_passes_119 (by decide) (fun c_119 => ?_) (fun c_119 => ?_)
                      · skip
                        rw [up1_at] at c_119
                        have hp2 : itr p2S (p1M (itr paS (0, (md 0)) k)).2 j = p2M (mHb (itr paS (0, (md 0)) k).2 0) (p1M (itr paS (0, (md 0)) k)).2 := by rw [h6 c_119, p2M, if_pos c_119]; rfl
                        rw [hp2] at hM
                        have hW := MdAt.put (g := g) (M := M) (m := q) (md := (up1 md 0 (p2M (mHb (itr paS (0, (md 0)) k).2 0) (p1M (itr paS (0, (md 0)) k)).2)))
                        refine lv_aload_n hx hb dX6_passes_195 rfl (lv_at hl 4 rfl) ?_
                        refine gt_X6_9 hc dX6_passes_196 hM hW.o rfl ?_
                        refine lv_iconst (v := 0) hx hb dX6_passes_199 (by decide) ?_
                        refine lv_dup2_11 hx hb dX6_passes_200 rfl rfl ?_
                        refine k_ialdN hc hM (n := 81) (hW.ar 0 (by decide) (by decide) rfl rfl) (X := 0) rfl (by omega) (by decide) dX6_passes_201 ?_
                        refine lv_iconst (v := 1) hx hb dX6_passes_202 (by decide) ?_
                        refine lv_iadd hx hb dX6_passes_203 ?_
                        refine k_iastN hc hM hS (n := 81) (hW.ar 0 (by decide) (by decide) rfl rfl) (X := 0) rfl (by omega) (by decide) dX6_passes_204 (fun H locs hM hS => ?_)
                        have hM := hR.eq hM (putD_ar hW 0 (by decide) (by decide) rfl rfl)
                        have hM := hR.eq hM putD_putD
                        have hW := MdAt.put (g := g) (M := M) (m := q) (md := (up1 (up1 md 0 (p2M (mHb (itr paS (0, (md 0)) k).2 0) (p1M (itr paS (0, (md 0)) k)).2)) 0 (upd ((up1 md 0 (p2M (mHb (itr paS (0, (md 0)) k).2 0) (p1M (itr paS (0, (md 0)) k)).2)) 0) 0 ((((up1 md 0 (p2M (mHb (itr paS (0, (md 0)) k).2 0) (p1M (itr paS (0, (md 0)) k)).2)) 0) 0) + 1))))
                        refine lv_iinc (v := (nI (k + 1))) (lv' := [(3, .int (nI (k + 1))), (5, .int (nI j)), (4, .int (mHb ((up1 md 0 (itr paS (0, (md 0)) k).2) 0) 0)), (2, .int (p1M (itr paS (0, (md 0)) k)).1), (0, .ref q), (1, .int v)]) hx hb dX6_passes_205 hl (k := 2) rfl (k_inc1 _) (by decide) rfl (fun ls hl => ?_)
                        refine lv_goto (tgt := 21) hx hb dX6_passes_208 (by decide) ?_
                        have z_2 : (p1M (itr paS (0, (md 0)) k)).1 = (itr paS (0, (md 0)) (k + 1)).1 := rfl
                        have hl := lv_chg (lv_sub hl [3, 0, 1, 2, 4, 5] rfl) z_2
                        have hM : hR g (putD g M q (up1 md 0 (itr paS (0, (md 0)) (k + 1)).2)) _ := hR.eq hM (congrArg (putD g M q) (by rw [up1_up1, up1_at]; rfl))
                        exact ih_21 (k + 1) (by omega) (by omega) ls _ _ hM hS (lv_sub hl [1, 0, 4, 5] rfl)
                      · skip
                        refine lv_aload_n hx hb dX6_passes_122 rfl (lv_at hl 4 rfl) ?_
                        refine lv_iload hx hb dX6_passes_123 (lv_at hl 0 rfl) ?_
                        refine k_V1 hc [.int (nI j)] cw_X6_135 rfl dX6_passes_125 (c_X6_isLost l hlf g _ q (up1 md 0 (itr p2S (p1M (itr paS (0, (md 0)) k)).2 j)) (nI j) hW (by first | assumption | decide)) hW.o hM hS hl.1 rfl rfl ⟨Nat.le_of_ble_eq_true rfl, Nat.le_of_ble_eq_true rfl⟩ ⟨Nat.le_of_ble_eq_true rfl, Nat.le_of_ble_eq_true rfl⟩ (Nat.le_of_ble_eq_true rfl) (fun H locs hM hS => ?_)
                        refine lv_if_ne (tgt := 189) hx hb dX6_passes_128 (by decide) (fun c_128 => ?_) (fun c_128 => ?_)
                        · skip
                          have c_128 := bI_ne.mp c_128
                          simp only [up1_at, up1_up1] at c_128
                          refine lv_iinc (v := (nI (j + 1))) (lv' := [(5, .int (nI (j + 1))), (4, .int (mHb ((up1 md 0 (itr paS (0, (md 0)) k).2) 0) 0)), (3, .int (nI k)), (2, .int (p1M (itr paS (0, (md 0)) k)).1), (0, .ref q), (1, .int v)]) hx hb dX6_passes_189 hl (k := 0) rfl (k_inc1 _) (by decide) rfl (fun ls hl => ?_)
                          refine lv_goto (tgt := 104) hx hb dX6_passes_192 (by decide) ?_
                          have hM : hR g (putD g M q (up1 md 0 (itr p2S (p1M (itr paS (0, (md 0)) k)).2 (j + 1)))) _ := hR.eq hM (congrArg (putD g M q) (by rw [itr_s]; simp only [up1_up1, up1_at, p2S, eq_true c_7, eq_false c_23, eq_true c_44, eq_false c_112, eq_false c_119, eq_true c_128, not_false_eq_true, not_true_eq_false, and_true, true_and, and_false, false_and, and_self, ↓reduceIte, or_true, true_or, or_self, or_false, false_or]))
                          exact ih_104 (j + 1) (by omega) (by omega) (fun h => absurd h c_119) ls _ _ hM hS (lv_sub hl [0, 1, 2, 3, 4, 5] rfl)
                        · skip
                          have c_128 := bI_eq.mp c_128
                          simp only [up1_at, up1_up1] at c_128
                          refine lv_aload_n hx hb dX6_passes_131 rfl (lv_at hl 4 rfl) ?_
                          refine lv_iload hx hb dX6_passes_132 (lv_at hl 0 rfl) ?_
                          refine lv_iconst (v := 2) hx hb dX6_passes_134 (by decide) ?_
                          refine k_V1 hc [.int (nI j), .int 2] cw_X6_68 rfl dX6_passes_135 (c_X6_ofCamel l hlf g _ q (up1 md 0 (itr p2S (p1M (itr paS (0, (md 0)) k)).2 j)) (nI j) 2 hW (by first | assumption | decide) (by first | assumption | decide)) hW.o hM hS hl.1 rfl rfl ⟨Nat.le_of_ble_eq_true rfl, Nat.le_of_ble_eq_true rfl⟩ ⟨Nat.le_of_ble_eq_true rfl, Nat.le_of_ble_eq_true rfl⟩ (Nat.le_of_ble_eq_true rfl) (fun H locs hM hS => ?_)
                          refine lv_iconst (v := 1) hx hb dX6_passes_138 (by decide) ?_
                          refine lv_icmp_ne (tgt := 145) hx hb dX6_passes_139 (by decide) (fun c_139 => ?_) (fun c_139 => ?_)
                          · skip
                            simp only [up1_at, up1_up1] at c_139
                            refine lv_aload_n hx hb dX6_passes_145 rfl (lv_at hl 4 rfl) ?_
                            refine lv_iload hx hb dX6_passes_146 (lv_at hl 0 rfl) ?_
                            refine lv_iconst (v := 0) hx hb dX6_passes_148 (by decide) ?_
                            refine lv_iload hx hb dX6_passes_149 (lv_at hl 0 rfl) ?_
                            refine lv_iconst (v := 2) hx hb dX6_passes_151 (by decide) ?_
                            refine lv_irem hx hb dX6_passes_152 (by decide) ?_
                            refine lv_if_ne (tgt := 173) hx hb dX6_passes_153 (by decide) (fun c_153 => ?_) (fun c_153 => ?_)
                            · skip
                              refine lv_iconst (v := 0) hx hb dX6_passes_173 (by decide) ?_
                              refine lv_aload_n hx hb dX6_passes_174 rfl (lv_at hl 4 rfl) ?_
                              refine lv_iload hx hb dX6_passes_175 (lv_at hl 0 rfl) ?_
                              refine lv_iconst (v := 0) hx hb dX6_passes_177 (by decide) ?_
                              refine k_V1 hc [.int (nI j), .int 0] cw_X6_68 rfl dX6_passes_178 (c_X6_ofCamel l hlf g _ q (up1 md 0 (itr p2S (p1M (itr paS (0, (md 0)) k)).2 j)) (nI j) 0 hW (by first | assumption | decide) (by first | assumption | decide)) hW.o hM hS hl.1 rfl rfl ⟨Nat.le_of_ble_eq_true rfl, Nat.le_of_ble_eq_true rfl⟩ ⟨Nat.le_of_ble_eq_true rfl, Nat.le_of_ble_eq_true rfl⟩ (Nat.le_of_ble_eq_true rfl) (fun H locs hM hS => ?_)
                              refine lv_iconst (v := 3) hx hb dX6_passes_181 (by decide) ?_
                              refine lv_isub hx hb dX6_passes_182 ?_
                              refine k_max hc q_X6_100 dX6_passes_183 hl.1 ⟨Nat.le_of_ble_eq_true rfl, Nat.le_of_ble_eq_true rfl, Nat.le_of_ble_eq_true rfl, Nat.le_of_ble_eq_true rfl⟩ ?_
                              refine k_V0 hc [.int (nI j), .int 0, .int (maxI 0 ((mC ((up1 md 0 (itr p2S (p1M (itr paS (0, (md 0)) k)).2 j)) 0) (nI j) 0) - 3))] cw_X6_131 rfl dX6_passes_186 (c_X6_setsCamel l hlf g _ q (up1 md 0 (itr p2S (p1M (itr paS (0, (md 0)) k)).2 j)) (nI j) 0 (maxI 0 ((mC ((up1 md 0 (itr p2S (p1M (itr paS (0, (md 0)) k)).2 j)) 0) (nI j) 0) - 3)) hW (by first | assumption | decide) (by first | assumption | decide)) hW.o hM hS hl.1 rfl rfl ⟨Nat.le_of_ble_eq_true rfl, Nat.le_of_ble_eq_true rfl⟩ ⟨Nat.le_of_ble_eq_true rfl, Nat.le_of_ble_eq_true rfl⟩ (Nat.le_of_ble_eq_true rfl) (fun H locs hM hS => ?_)
                              have hM := hR.eq hM putD_putD
                              have hW := MdAt.put (g := g) (M := M) (m := q) (md := (up1 (up1 md 0 (itr p2S (p1M (itr paS (0, (md 0)) k)).2 j)) 0 (sC ((up1 md 0 (itr p2S (p1M (itr paS (0, (md 0)) k)).2 j)) 0) (nI j) 0 (maxI 0 ((mC ((up1 md 0 (itr p2S (p1M (itr paS (0, (md 0)) k)).2 j)) 0) (nI j) 0) - 3)))))
                              refine lv_iinc (v := (nI (j + 1))) (lv' := [(5, .int (nI (j + 1))), (4, .int (mHb ((up1 md 0 (itr paS (0, (md 0)) k).2) 0) 0)), (3, .int (nI k)), (2, .int (p1M (itr paS (0, (md 0)) k)).1), (0, .ref q), (1, .int v)]) hx hb dX6_passes_189 hl (k := 0) rfl (k_inc1 _) (by decide) rfl (fun ls hl => ?_)
                              refine lv_goto (tgt := 104) hx hb dX6_passes_192 (by decide) ?_
                              have hM : hR g (putD g M q (up1 md 0 (itr p2S (p1M (itr paS (0, (md 0)) k)).2 (j + 1)))) _ := hR.eq hM (congrArg (putD g M q) (by rw [itr_s]; simp only [up1_up1, up1_at, p2S, eq_true c_7, eq_false c_23, eq_true c_44, eq_false c_112, eq_false c_119, eq_false c_128, eq_false c_139, eq_false c_153, not_false_eq_true, not_true_eq_false, and_true, true_and, and_false, false_and, and_self, ↓reduceIte, or_true, true_or, or_self, or_false, false_or]))
                              exact ih_104 (j + 1) (by omega) (by omega) (fun h => absurd h c_119) ls _ _ hM hS (lv_sub hl [0, 1, 2, 3, 4, 5] rfl)
                            · skip
                              refine lv_bipush (v := 99) hx hb dX6_passes_156 (by decide) ?_
                              refine lv_aload_n hx hb dX6_passes_158 rfl (lv_at hl 4 rfl) ?_
                              refine lv_iload hx hb dX6_passes_159 (lv_at hl 0 rfl) ?_
                              refine lv_iconst (v := 0) hx hb dX6_passes_161 (by decide) ?_
                              refine k_V1 hc [.int (nI j), .int 0] cw_X6_68 rfl dX6_passes_162 (c_X6_ofCamel l hlf g _ q (up1 md 0 (itr p2S (p1M (itr paS (0, (md 0)) k)).2 j)) (nI j) 0 hW (by first | assumption | decide) (by first | assumption | decide)) hW.o hM hS hl.1 rfl rfl ⟨Nat.le_of_ble_eq_true rfl, Nat.le_of_ble_eq_true rfl⟩ ⟨Nat.le_of_ble_eq_true rfl, Nat.le_of_ble_eq_true rfl⟩ (Nat.le_of_ble_eq_true rfl) (fun H locs hM hS => ?_)
                              refine lv_iconst (v := 3) hx hb dX6_passes_165 (by decide) ?_
                              refine lv_iadd hx hb dX6_passes_166 ?_
                              refine k_min hc q_X6_72 dX6_passes_167 hl.1 ⟨Nat.le_of_ble_eq_true rfl, Nat.le_of_ble_eq_true rfl, Nat.le_of_ble_eq_true rfl, Nat.le_of_ble_eq_true rfl⟩ ?_
                              refine lv_goto (tgt := 186) hx hb dX6_passes_170 (by decide) ?_
                              refine k_V0 hc [.int (nI j), .int 0, .int (minI 99 ((mC ((up1 md 0 (itr p2S (p1M (itr paS (0, (md 0)) k)).2 j)) 0) (nI j) 0) + 3))] cw_X6_131 rfl dX6_passes_186 (c_X6_setsCamel l hlf g _ q (up1 md 0 (itr p2S (p1M (itr paS (0, (md 0)) k)).2 j)) (nI j) 0 (minI 99 ((mC ((up1 md 0 (itr p2S (p1M (itr paS (0, (md 0)) k)).2 j)) 0) (nI j) 0) + 3)) hW (by first | assumption | decide) (by first | assumption | decide)) hW.o hM hS hl.1 rfl rfl ⟨Nat.le_of_ble_eq_true rfl, Nat.le_of_ble_eq_true rfl⟩ ⟨Nat.le_of_ble_eq_true rfl, Nat.le_of_ble_eq_true rfl⟩ (Nat.le_of_ble_eq_true rfl) (fun H locs hM hS => ?_)
                              have hM := hR.eq hM putD_putD
                              have hW := MdAt.put (g := g) (M := M) (m := q) (md := (up1 (up1 md 0 (itr p2S (p1M (itr paS (0, (md 0)) k)).2 j)) 0 (sC ((up1 md 0 (itr p2S (p1M (itr paS (0, (md 0)) k)).2 j)) 0) (nI j) 0 (minI 99 ((mC ((up1 md 0 (itr p2S (p1M (itr paS (0, (md 0)) k)).2 j)) 0) (nI j) 0) + 3)))))
                              refine lv_iinc (v := (nI (j + 1))) (lv' := [(5, .int (nI (j + 1))), (4, .int (mHb ((up1 md 0 (itr paS (0, (md 0)) k).2) 0) 0)), (3, .int (nI k)), (2, .int (p1M (itr paS (0, (md 0)) k)).1), (0, .ref q), (1, .int v)]) hx hb dX6_passes_189 hl (k := 0) rfl (k_inc1 _) (by decide) rfl (fun ls hl => ?_)
                              refine lv_goto (tgt := 104) hx hb dX6_passes_192 (by decide) ?_
                              have hM : hR g (putD g M q (up1 md 0 (itr p2S (p1M (itr paS (0, (md 0)) k)).2 (j + 1)))) _ := hR.eq hM (congrArg (putD g M q) (by rw [itr_s]; simp only [up1_up1, up1_at, p2S, eq_true c_7, eq_false c_23, eq_true c_44, eq_false c_112, eq_false c_119, eq_false c_128, eq_false c_139, eq_true c_153, not_false_eq_true, not_true_eq_false, and_true, true_and, and_false, false_and, and_self, ↓reduceIte, or_true, true_or, or_self, or_false, false_or]))
                              exact ih_104 (j + 1) (by omega) (by omega) (fun h => absurd h c_119) ls _ _ hM hS (lv_sub hl [0, 1, 2, 3, 4, 5] rfl)
                          · skip
                            simp only [up1_at, up1_up1] at c_139
                            refine lv_goto (tgt := 189) hx hb dX6_passes_142 (by decide) ?_
                            refine lv_iinc (v := (nI (j + 1))) (lv' := [(5, .int (nI (j + 1))), (4, .int (mHb ((up1 md 0 (itr paS (0, (md 0)) k).2) 0) 0)), (3, .int (nI k)), (2, .int (p1M (itr paS (0, (md 0)) k)).1), (0, .ref q), (1, .int v)]) hx hb dX6_passes_189 hl (k := 0) rfl (k_inc1 _) (by decide) rfl (fun ls hl => ?_)
                            refine lv_goto (tgt := 104) hx hb dX6_passes_192 (by decide) ?_
                            have hM : hR g (putD g M q (up1 md 0 (itr p2S (p1M (itr paS (0, (md 0)) k)).2 (j + 1)))) _ := hR.eq hM (congrArg (putD g M q) (by rw [itr_s]; simp only [up1_up1, up1_at, p2S, eq_true c_7, eq_false c_23, eq_true c_44, eq_false c_112, eq_false c_119, eq_false c_128, eq_true c_139, not_false_eq_true, not_true_eq_false, and_true, true_and, and_false, false_and, and_self, ↓reduceIte, or_true, true_or, or_self, or_false, false_or]))
                            exact ih_104 (j + 1) (by omega) (by omega) (fun h => absurd h c_119) ls _ _ hM hS (lv_sub hl [0, 1, 2, 3, 4, 5] rfl)
                have z_5 : 0 = (nI 0) := rfl
                have hl := lv_chg (lv_sub hl [0, 1, 2, 3, 4, 5] rfl) z_5
                exact lp_104 (((p1M (itr paS (0, (md 0)) k)).2 5).toNatClampNeg + 1) 0 (by omega) (by omega) (fun _ => rfl) ls _ _ hM hS (lv_sub hl [0, 1, 2, 3, 4, 5] rfl)
              · skip
                rw [up1_at, p1_lo (by have := clamp6 (pa_ok hI (n := 0) k).2.2.2; omega) (by decide)] at c_44
                have c_44 : ¬ ((itr paS (0, (md 0)) k).2 5).toNatClampNeg ≤ j := fun h => c_44 ((k_le (by have := k_clamp_lt ((itr paS (0, (md 0)) k).2 5); omega)).mpr h)
                have ok_44 := kC_ok (pa_ok hI (n := 0) k) c_44
                refine lv_aload_n hx hb dX6_passes_47 rfl (lv_at hl 4 rfl) ?_
                refine lv_iload hx hb dX6_passes_48 (lv_at hl 0 rfl) ?_
                refine k_V1 hc [.int (nI j)] cw_X6_135 rfl dX6_passes_50 (c_X6_isLost l hlf g _ q (up1 md 0 (itr (p1S (mHb (itr paS (0, (md 0)) k).2 0)) (itr paS (0, (md 0)) k) j).2) (nI j) hW (by first | assumption | decide)) hW.o hM hS hl.1 rfl rfl ⟨Nat.le_of_ble_eq_true rfl, Nat.le_of_ble_eq_true rfl⟩ ⟨Nat.le_of_ble_eq_true rfl, Nat.le_of_ble_eq_true rfl⟩ (Nat.le_of_ble_eq_true rfl) (fun H locs hM hS => ?_)
                refine lv_if_eq (tgt := 59) hx hb dX6_passes_53 (by decide) (fun c_53 => ?_) (fun c_53 => ?_)
                · skip
                  have c_53 := bI_eq.mp c_53
                  simp only [up1_at, up1_up1] at c_53
                  refine lv_aload_n hx hb dX6_passes_59 rfl (lv_at hl 4 rfl) ?_
                  refine lv_iload hx hb dX6_passes_60 (lv_at hl 0 rfl) ?_
                  refine lv_iconst (v := 1) hx hb dX6_passes_62 (by decide) ?_
                  refine lv_bipush (v := 20) hx hb dX6_passes_63 (by decide) ?_
                  refine lv_aload_n hx hb dX6_passes_65 rfl (lv_at hl 4 rfl) ?_
                  refine lv_iload hx hb dX6_passes_66 (lv_at hl 0 rfl) ?_
                  refine lv_iconst (v := 1) hx hb dX6_passes_68 (by decide) ?_
                  refine k_V1 hc [.int (nI j), .int 1] cw_X6_68 rfl dX6_passes_69 (c_X6_ofCamel l hlf g _ q (up1 md 0 (itr (p1S (mHb (itr paS (0, (md 0)) k).2 0)) (itr paS (0, (md 0)) k) j).2) (nI j) 1 hW (by first | assumption | decide) (by first | assumption | decide)) hW.o hM hS hl.1 rfl rfl ⟨Nat.le_of_ble_eq_true rfl, Nat.le_of_ble_eq_true rfl⟩ ⟨Nat.le_of_ble_eq_true rfl, Nat.le_of_ble_eq_true rfl⟩ (Nat.le_of_ble_eq_true rfl) (fun H locs hM hS => ?_)
                  refine lv_iload hx hb dX6_passes_72 (lv_at hl 1 rfl) ?_
                  refine lv_iconst (v := 4) hx hb dX6_passes_74 (by decide) ?_
                  refine lv_idiv hx hb dX6_passes_75 (by decide) ?_
                  refine lv_iadd hx hb dX6_passes_76 ?_
                  refine k_min hc q_X6_72 dX6_passes_77 hl.1 ⟨Nat.le_of_ble_eq_true rfl, Nat.le_of_ble_eq_true rfl, Nat.le_of_ble_eq_true rfl, Nat.le_of_ble_eq_true rfl⟩ ?_
                  refine k_V0 hc [.int (nI j), .int 1, .int (minI 20 ((mC ((up1 md 0 (itr (p1S (mHb (itr paS (0, (md 0)) k).2 0)) (itr paS (0, (md 0)) k) j).2) 0) (nI j) 1) + ((mHb ((up1 md 0 (itr paS (0, (md 0)) k).2) 0) 0) / 4)))] cw_X6_131 rfl dX6_passes_80 (c_X6_setsCamel l hlf g _ q (up1 md 0 (itr (p1S (mHb (itr paS (0, (md 0)) k).2 0)) (itr paS (0, (md 0)) k) j).2) (nI j) 1 (minI 20 ((mC ((up1 md 0 (itr (p1S (mHb (itr paS (0, (md 0)) k).2 0)) (itr paS (0, (md 0)) k) j).2) 0) (nI j) 1) + ((mHb ((up1 md 0 (itr paS (0, (md 0)) k).2) 0) 0) / 4))) hW (by first | assumption | decide) (by first | assumption | decide)) hW.o hM hS hl.1 rfl rfl ⟨Nat.le_of_ble_eq_true rfl, Nat.le_of_ble_eq_true rfl⟩ ⟨Nat.le_of_ble_eq_true rfl, Nat.le_of_ble_eq_true rfl⟩ (Nat.le_of_ble_eq_true rfl) (fun H locs hM hS => ?_)
                  have hM := hR.eq hM putD_putD
                  have hW := MdAt.put (g := g) (M := M) (m := q) (md := (up1 (up1 md 0 (itr (p1S (mHb (itr paS (0, (md 0)) k).2 0)) (itr paS (0, (md 0)) k) j).2) 0 (sC ((up1 md 0 (itr (p1S (mHb (itr paS (0, (md 0)) k).2 0)) (itr paS (0, (md 0)) k) j).2) 0) (nI j) 1 (minI 20 ((mC ((up1 md 0 (itr (p1S (mHb (itr paS (0, (md 0)) k).2 0)) (itr paS (0, (md 0)) k) j).2) 0) (nI j) 1) + ((mHb ((up1 md 0 (itr paS (0, (md 0)) k).2) 0) 0) / 4))))))
                  refine lv_aload_n hx hb dX6_passes_83 rfl (lv_at hl 4 rfl) ?_
                  refine lv_iload hx hb dX6_passes_84 (lv_at hl 0 rfl) ?_
                  refine k_V1 hc [.int (nI j)] cw_X6_135 rfl dX6_passes_86 (c_X6_isLost l hlf g _ q (up1 (up1 md 0 (itr (p1S (mHb (itr paS (0, (md 0)) k).2 0)) (itr paS (0, (md 0)) k) j).2) 0 (sC ((up1 md 0 (itr (p1S (mHb (itr paS (0, (md 0)) k).2 0)) (itr paS (0, (md 0)) k) j).2) 0) (nI j) 1 (minI 20 ((mC ((up1 md 0 (itr (p1S (mHb (itr paS (0, (md 0)) k).2 0)) (itr paS (0, (md 0)) k) j).2) 0) (nI j) 1) + ((mHb ((up1 md 0 (itr paS (0, (md 0)) k).2) 0) 0) / 4))))) (nI j) hW (by first | assumption | decide)) hW.o hM hS hl.1 rfl rfl ⟨Nat.le_of_ble_eq_true rfl, Nat.le_of_ble_eq_true rfl⟩ ⟨Nat.le_of_ble_eq_true rfl, Nat.le_of_ble_eq_true rfl⟩ (Nat.le_of_ble_eq_true rfl) (fun H locs hM hS => ?_)
                  refine lv_if_eq (tgt := 95) hx hb dX6_passes_89 (by decide) (fun c_89 => ?_) (fun c_89 => ?_)
                  · skip
                    have c_89 := bI_eq.mp c_89
                    simp only [up1_at, up1_up1] at c_89
                    refine lv_iinc (v := (nI (j + 1))) (lv' := [(5, .int (nI (j + 1))), (4, .int (mHb ((up1 md 0 (itr paS (0, (md 0)) k).2) 0) 0)), (3, .int (nI k)), (2, .int (itr (p1S (mHb (itr paS (0, (md 0)) k).2 0)) (itr paS (0, (md 0)) k) j).1), (0, .ref q), (1, .int v)]) hx hb dX6_passes_95 hl (k := 0) rfl (k_inc1 _) (by decide) rfl (fun ls hl => ?_)
                    refine lv_goto (tgt := 36) hx hb dX6_passes_98 (by decide) ?_
                    have z_2 : (itr (p1S (mHb (itr paS (0, (md 0)) k).2 0)) (itr paS (0, (md 0)) k) j).1 = (itr (p1S (mHb (itr paS (0, (md 0)) k).2 0)) (itr paS (0, (md 0)) k) (j + 1)).1 := (by rw [itr_s]; simp only [p1S, p1C, eq_true c_7, eq_false c_23, eq_false c_44, eq_false c_53, eq_false c_89, not_false_eq_true, not_true_eq_false, and_true, true_and, and_false, false_and, and_self, ↓reduceIte, or_true, true_or, or_self, or_false, false_or])
                    have hl := lv_chg (lv_sub hl [3, 0, 1, 2, 4, 5] rfl) z_2
                    have hM : hR g (putD g M q (up1 md 0 (itr (p1S (mHb (itr paS (0, (md 0)) k).2 0)) (itr paS (0, (md 0)) k) (j + 1)).2)) _ := hR.eq hM (congrArg (putD g M q) (by rw [itr_s]; simp only [up1_up1, up1_at, p1S, p1C, eq_true c_7, eq_false c_23, eq_false c_44, eq_false c_53, eq_false c_89, not_false_eq_true, not_true_eq_false, and_true, true_and, and_false, false_and, and_self, ↓reduceIte, or_true, true_or, or_self, or_false, false_or]))
                    exact ih_36 (j + 1) (by omega) (by omega) ls _ _ hM hS (lv_sub hl [1, 2, 3, 0, 4, 5] rfl)
                  · skip
                    have c_89 := bI_ne.mp c_89
                    simp only [up1_at, up1_up1] at c_89
                    refine lv_iinc (v := ((itr (p1S (mHb (itr paS (0, (md 0)) k).2 0)) (itr paS (0, (md 0)) k) j).1 + 1)) (lv' := [(2, .int ((itr (p1S (mHb (itr paS (0, (md 0)) k).2 0)) (itr paS (0, (md 0)) k) j).1 + 1)), (5, .int (nI j)), (4, .int (mHb ((up1 md 0 (itr paS (0, (md 0)) k).2) 0) 0)), (3, .int (nI k)), (0, .ref q), (1, .int v)]) hx hb dX6_passes_92 hl (k := 3) rfl rfl (by decide) rfl (fun ls hl => ?_)
                    refine lv_iinc (v := (nI (j + 1))) (lv' := [(5, .int (nI (j + 1))), (2, .int ((itr (p1S (mHb (itr paS (0, (md 0)) k).2 0)) (itr paS (0, (md 0)) k) j).1 + 1)), (4, .int (mHb ((up1 md 0 (itr paS (0, (md 0)) k).2) 0) 0)), (3, .int (nI k)), (0, .ref q), (1, .int v)]) hx hb dX6_passes_95 hl (k := 1) rfl (k_inc1 _) (by decide) rfl (fun ls hl => ?_)
                    refine lv_goto (tgt := 36) hx hb dX6_passes_98 (by decide) ?_
                    have z_2 : ((itr (p1S (mHb (itr paS (0, (md 0)) k).2 0)) (itr paS (0, (md 0)) k) j).1 + 1) = (itr (p1S (mHb (itr paS (0, (md 0)) k).2 0)) (itr paS (0, (md 0)) k) (j + 1)).1 := (by rw [itr_s]; simp only [p1S, p1C, eq_true c_7, eq_false c_23, eq_false c_44, eq_false c_53, eq_true c_89, not_false_eq_true, not_true_eq_false, and_true, true_and, and_false, false_and, and_self, ↓reduceIte, or_true, true_or, or_self, or_false, false_or])
                    have hl := lv_chg (lv_sub hl [1, 0, 2, 3, 4, 5] rfl) z_2
                    have hM : hR g (putD g M q (up1 md 0 (itr (p1S (mHb (itr paS (0, (md 0)) k).2 0)) (itr paS (0, (md 0)) k) (j + 1)).2)) _ := hR.eq hM (congrArg (putD g M q) (by rw [itr_s]; simp only [up1_up1, up1_at, p1S, p1C, eq_true c_7, eq_false c_23, eq_false c_44, eq_false c_53, eq_true c_89, not_false_eq_true, not_true_eq_false, and_true, true_and, and_false, false_and, and_self, ↓reduceIte, or_true, true_or, or_self, or_false, false_or]))
                    exact ih_36 (j + 1) (by omega) (by omega) ls _ _ hM hS (lv_sub hl [1, 2, 3, 0, 4, 5] rfl)
                · skip
                  have c_53 := bI_ne.mp c_53
                  simp only [up1_at, up1_up1] at c_53
                  refine lv_goto (tgt := 95) hx hb dX6_passes_56 (by decide) ?_
                  refine lv_iinc (v := (nI (j + 1))) (lv' := [(5, .int (nI (j + 1))), (4, .int (mHb ((up1 md 0 (itr paS (0, (md 0)) k).2) 0) 0)), (3, .int (nI k)), (2, .int (itr (p1S (mHb (itr paS (0, (md 0)) k).2 0)) (itr paS (0, (md 0)) k) j).1), (0, .ref q), (1, .int v)]) hx hb dX6_passes_95 hl (k := 0) rfl (k_inc1 _) (by decide) rfl (fun ls hl => ?_)
                  refine lv_goto (tgt := 36) hx hb dX6_passes_98 (by decide) ?_
                  have z_2 : (itr (p1S (mHb (itr paS (0, (md 0)) k).2 0)) (itr paS (0, (md 0)) k) j).1 = (itr (p1S (mHb (itr paS (0, (md 0)) k).2 0)) (itr paS (0, (md 0)) k) (j + 1)).1 := (by rw [itr_s]; simp only [p1S, p1C, eq_true c_7, eq_false c_23, eq_false c_44, eq_true c_53, not_false_eq_true, not_true_eq_false, and_true, true_and, and_false, false_and, and_self, ↓reduceIte, or_true, true_or, or_self, or_false, false_or])
                  have hl := lv_chg (lv_sub hl [3, 0, 1, 2, 4, 5] rfl) z_2
                  have hM : hR g (putD g M q (up1 md 0 (itr (p1S (mHb (itr paS (0, (md 0)) k).2 0)) (itr paS (0, (md 0)) k) (j + 1)).2)) _ := hR.eq hM (congrArg (putD g M q) (by rw [itr_s]; simp only [up1_up1, up1_at, p1S, p1C, eq_true c_7, eq_false c_23, eq_false c_44, eq_true c_53, not_false_eq_true, not_true_eq_false, and_true, true_and, and_false, false_and, and_self, ↓reduceIte, or_true, true_or, or_self, or_false, false_or]))
                  exact ih_36 (j + 1) (by omega) (by omega) ls _ _ hM hS (lv_sub hl [1, 2, 3, 0, 4, 5] rfl)
          have z_5 : 0 = (nI 0) := rfl
          have hl := lv_chg (lv_sub hl [0, 1, 2, 3, 4, 5] rfl) z_5
          have z_2 : (itr paS (0, (md 0)) k).1 = (itr (p1S (mHb (itr paS (0, (md 0)) k).2 0)) (itr paS (0, (md 0)) k) 0).1 := rfl
          have hl := lv_chg (lv_sub hl [3, 0, 1, 2, 4, 5] rfl) z_2
          exact lp_36 (((itr paS (0, (md 0)) k).2 5).toNatClampNeg + 1) 0 (by omega) (by omega) ls _ _ hM hS (lv_sub hl [1, 2, 3, 0, 4, 5] rfl)
    have z_3 : 0 = (nI 0) := rfl
    have hl := lv_chg (lv_sub hl [0, 1, 2, 3] rfl) z_3
    have z_2 : 0 = (itr paS (0, (md 0)) 0).1 := rfl
    have hl := lv_chg (lv_sub hl [1, 0, 2, 3] rfl) z_2
    have hM : hR g (putD g M q (up1 md 0 (itr paS (0, (md 0)) 0).2)) _ := hR.eq hM ((putD_same hW).symm.trans (congrArg (putD g M q) up1_self.symm))
    exact lp_21 (v.toNatClampNeg + 1) 0 (by omega) (by omega) ls _ _ hM hS (lv_sub hl [1, 0, 2, 3] rfl)
  · skip
    have c_7 := bI_eq.mp c_7
    refine lv_aload_n hx hb dX6_passes_10 rfl (lv_at hl 0 rfl) ?_
    refine lv_iconst (v := 1) hx hb dX6_passes_11 (by decide) ?_
    refine lv_iconst (v := 0) hx hb dX6_passes_12 (by decide) ?_
    refine k_V1 hc [.int 1, .int 0] cw_X6_80 rfl dX6_passes_13 (c_X6_refuses l hlf g _ q md 1 0 hW) hW.o hM hS hl.1 rfl rfl ⟨Nat.le_of_ble_eq_true rfl, Nat.le_of_ble_eq_true rfl⟩ ⟨Nat.le_of_ble_eq_true rfl, Nat.le_of_ble_eq_true rfl⟩ (Nat.le_of_ble_eq_true rfl) (fun H locs hM hS => ?_)
    have hW := MdAt.put (g := g) (M := M) (m := q) (md := (rfM md 1 0))
    exact k_zret hc hr dX6_passes_16 hM hS (by first | rfl | exact bI_n) (Nat.le_of_ble_eq_true rfl) (Nat.le_of_ble_eq_true rfl) (by first | rfl | (simp only [paM, eq_false c_7, eq_self, bM_l, bM_r, rsM_l, rsM_r, seV_l, seV_r, snE_l, snE_r, up1_at, up1_up1, up2_up2, not_false_eq_true, not_true_eq_false, and_true, true_and, and_false, false_and, and_self, ↓reduceIte, or_true, true_or, or_self, or_false, false_or]; done) | (simp only [paM, eq_false c_7, eq_self, bM_l, bM_r, rsM_l, rsM_r, seV_l, seV_r, snE_l, snE_r, up1_at, up1_up1, up2_up2, not_false_eq_true, not_true_eq_false, and_true, true_and, and_false, false_and, and_self, ↓reduceIte, or_true, true_or, or_self, or_false, false_or]; rfl))
