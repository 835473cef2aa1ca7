/-! the reference's further questions -/
theorem in100 {v : Int32} (h : ¬ v < 0 ∧ v < 100) : vp_in v 100 := by
  obtain ⟨j, hj, rfl⟩ := ok_nI (n := 100) rfl h
  exact vp_in_nI hj (by decide)

set_option maxHeartbeats 4000000 in
set_option maxRecDepth 100000 in
theorem c_X6_draws (l : Launch) (hlf : l.stackTraces = false) (g : GC) (M : HM) (q : Nat) (md : FL) (v : Int32) (hW : MdAt g M q md) (hI : mOk (md 0)) : KM g l yX6_draws cX6_draws 5 (some .int) 2 0 0 [.ref q, .int v] M (.inl (some (.int (dwM (md 0) v)), M)) := by
  refine k_meth hlf (by decide) (Nat.le_of_ble_eq_true rfl) fun p e s m below meth c ls hc hr hnx hM hS hl => ?_
  have hc : Cx g p l s m [.ref q, .int v].toArray meth c cX6_draws 5 RX6 := hc
  have hx := hc.1
  have hb := hc.2.1
  have hl : lv_has ls 5 [(0, .ref q), (1, .int v)] := hl
  refine lv_iconst (v := 0) hx hb dX6_draws_0 (by decide) ?_
  refine lv_istore_n (lv' := [(2, .int 0), (0, .ref q), (1, .int v)]) hx hb dX6_draws_1 rfl hl (by decide) rfl (fun ls hl => ?_)
  refine lv_iconst (v := 0) hx hb dX6_draws_2 (by decide) ?_
  refine lv_istore_n (lv' := [(3, .int 0), (2, .int 0), (0, .ref q), (1, .int v)]) hx hb dX6_draws_3 rfl hl (by decide) rfl (fun ls hl => ?_)
  have lp_4 : ∀ (D k : Nat), ((md 0 4).toNatClampNeg) - k < D → k ≤ (md 0 4).toNatClampNeg → ∀ (ls : Array Slot) (H : Heap) (locs : List Loc), hR g M H → va_S (gA g) s.heap H locs → lv_has ls 5 [(3, .int (nI k)), (2, .int (itr (dr2S (md 0) v) 0 k)), (0, .ref q), (1, .int v)] → W p l e (rmOf 2 0 0) s m [.ref q, .int v].toArray below meth c H locs 0 0 (vx_MQ below (KQ g (.inl (some (.int (dwM (md 0) v)), M))) (KX g (.inl (some (.int (dwM (md 0) v)), M))) [.ref q, .int v].toArray s 0 0 (gA g)) (F0 m 4 ls []) := by
    intro D
    induction D with
    | zero => intro k hD; exact absurd hD (Nat.not_lt_zero _)
    | succ D ih_4 =>
      intro k hD hk ls H locs hM hS hl
      refine lv_iload_n hx hb dX6_draws_4 rfl (lv_at hl 0 rfl) ?_
      refine lv_aload_n hx hb dX6_draws_5 rfl (lv_at hl 2 rfl) ?_
      refine gt_X6_9 hc dX6_draws_6 hM hW.o rfl ?_
      refine lv_iconst (v := 4) hx hb dX6_draws_9 (by decide) ?_
      refine k_ialdN hc hM (n := 81) (hW.ar 0 (by decide) (by decide) rfl rfl) (X := 4) rfl (by omega) (by decide) dX6_draws_10 ?_
      refine lv_icmp_ge (tgt := 77) hx hb dX6_draws_11 (by decide) (fun c_11 => ?_) (fun c_11 => ?_)
      · skip
        have c_11 : (md 0 4).toNatClampNeg ≤ k := (k_le (by have := k_clamp_lt (md 0 4); omega)).mp c_11
        refine lv_iload_n hx hb dX6_draws_77 rfl (lv_at hl 1 rfl) ?_
        exact k_iret hc hr dX6_draws_78 hM hS (Nat.le_of_ble_eq_true rfl) (Nat.le_of_ble_eq_true rfl) (by rw [dwM, show k = (md 0 4).toNatClampNeg by omega])
      · skip
        have c_11 : ¬ (md 0 4).toNatClampNeg ≤ k := fun h => c_11 ((k_le (by have := k_clamp_lt (md 0 4); omega)).mpr h)
        have ok_11 := kH_ok (f := md 0) hI c_11
        refine lv_iconst (v := 0) hx hb dX6_draws_14 (by decide) ?_
        refine lv_istore (lv' := [(4, .int 0), (3, .int (nI k)), (2, .int (itr (dr2S (md 0) v) 0 k)), (0, .ref q), (1, .int v)]) hx hb dX6_draws_15 hl (by decide) rfl (fun ls hl => ?_)
        have lp_17 : ∀ (D j : Nat), ((md 0 2).toNatClampNeg) - j < D → j ≤ (md 0 2).toNatClampNeg → ∀ (ls : Array Slot) (H : Heap) (locs : List Loc), hR g M H → va_S (gA g) s.heap H locs → lv_has ls 5 [(4, .int (nI j)), (3, .int (nI k)), (2, .int (itr (dr1S (md 0) v (nI k)) (itr (dr2S (md 0) v) 0 k) j)), (0, .ref q), (1, .int v)] → W p l e (rmOf 2 0 0) s m [.ref q, .int v].toArray below meth c H locs 0 0 (vx_MQ below (KQ g (.inl (some (.int (dwM (md 0) v)), M))) (KX g (.inl (some (.int (dwM (md 0) v)), M))) [.ref q, .int v].toArray s 0 0 (gA g)) (F0 m 17 ls []) := by
          intro D
          induction D with
          | zero => intro j hD; exact absurd hD (Nat.not_lt_zero _)
          | succ D ih_17 =>
            intro j hD hk ls H locs hM hS hl
            refine lv_iload hx hb dX6_draws_17 (lv_at hl 0 rfl) ?_
            refine lv_aload_n hx hb dX6_draws_19 rfl (lv_at hl 3 rfl) ?_
            refine gt_X6_9 hc dX6_draws_20 hM hW.o rfl ?_
            refine lv_iconst (v := 2) hx hb dX6_draws_23 (by decide) ?_
            refine k_ialdN hc hM (n := 81) (hW.ar 0 (by decide) (by decide) rfl rfl) (X := 2) rfl (by omega) (by decide) dX6_draws_24 ?_
            refine lv_icmp_ge (tgt := 71) hx hb dX6_draws_25 (by decide) (fun c_25 => ?_) (fun c_25 => ?_)
            · skip
              have c_25 : (md 0 2).toNatClampNeg ≤ j := (k_le (by have := k_clamp_lt (md 0 2); omega)).mp c_25
              have z_2 : (itr (dr1S (md 0) v (nI k)) (itr (dr2S (md 0) v) 0 k) j) = (itr (dr2S (md 0) v) 0 (k + 1)) := (by rw [show j = (md 0 2).toNatClampNeg by omega]; rfl)
              have hl := lv_chg (lv_sub hl [2, 0, 1, 3, 4] rfl) z_2
              refine lv_iinc (v := (nI (k + 1))) (lv' := [(3, .int (nI (k + 1))), (2, .int (itr (dr2S (md 0) v) 0 (k + 1))), (4, .int (nI j)), (0, .ref q), (1, .int v)]) hx hb dX6_draws_71 hl (k := 2) rfl (k_inc1 _) (by decide) rfl (fun ls hl => ?_)
              refine lv_goto (tgt := 4) hx hb dX6_draws_74 (by decide) ?_
              exact ih_4 (k + 1) (by omega) (by omega) ls _ _ hM hS (lv_sub hl [0, 1, 3, 4] rfl)
            · skip
              have c_25 : ¬ (md 0 2).toNatClampNeg ≤ j := fun h => c_25 ((k_le (by have := k_clamp_lt (md 0 2); omega)).mpr h)
              have ok_25 := kS_ok (f := md 0) hI c_25
              refine lv_aload_n hx hb dX6_draws_28 rfl (lv_at hl 3 rfl) ?_
              refine lv_iload hx hb dX6_draws_29 (lv_at hl 0 rfl) ?_
              refine lv_iload_n hx hb dX6_draws_31 rfl (lv_at hl 1 rfl) ?_
              refine k_V1 (v := .int (mD (md 0) (nI j) (nI k))) hc [.int (nI j), .int (nI k)] cw_X6_125 rfl dX6_draws_32 (c_X6_drawn l hlf g _ q md (nI j) (nI k) hW (by first | assumption | decide) (by first | assumption | decide)) hW.o hM hS hl.1 rfl rfl ⟨Nat.le_of_ble_eq_true rfl, Nat.le_of_ble_eq_true rfl⟩ ⟨Nat.le_of_ble_eq_true rfl, Nat.le_of_ble_eq_true rfl⟩ (Nat.le_of_ble_eq_true rfl) (fun H locs hM hS => ?_)
              refine lv_if_lt (tgt := 65) hx hb dX6_draws_35 (by decide) (fun c_35 => ?_) (fun c_35 => ?_)
              · skip
                refine lv_iinc (v := (nI (j + 1))) (lv' := [(4, .int (nI (j + 1))), (3, .int (nI k)), (2, .int (itr (dr1S (md 0) v (nI k)) (itr (dr2S (md 0) v) 0 k) j)), (0, .ref q), (1, .int v)]) hx hb dX6_draws_65 hl (k := 0) rfl (k_inc1 _) (by decide) rfl (fun ls hl => ?_)
                refine lv_goto (tgt := 17) hx hb dX6_draws_68 (by decide) ?_
                have z_2 : (itr (dr1S (md 0) v (nI k)) (itr (dr2S (md 0) v) 0 k) j) = (itr (dr1S (md 0) v (nI k)) (itr (dr2S (md 0) v) 0 k) (j + 1)) := (by rw [itr_s]; simp only [dr1S, eq_false c_11, eq_false c_25, eq_true c_35, not_false_eq_true, not_true_eq_false, and_true, true_and, and_false, false_and, and_self, ↓reduceIte, or_true, true_or, or_self, or_false, false_or])
                have hl := lv_chg (lv_sub hl [2, 0, 1, 3, 4] rfl) z_2
                exact ih_17 (j + 1) (by omega) (by omega) ls _ _ hM hS (lv_sub hl [1, 2, 0, 3, 4] rfl)
              · skip
                refine lv_iload_n hx hb dX6_draws_38 rfl (lv_at hl 4 rfl) ?_
                refine lv_if_eq (tgt := 62) hx hb dX6_draws_39 (by decide) (fun c_39 => ?_) (fun c_39 => ?_)
                · skip
                  refine lv_iinc (v := ((itr (dr1S (md 0) v (nI k)) (itr (dr2S (md 0) v) 0 k) j) + 1)) (lv' := [(2, .int ((itr (dr1S (md 0) v (nI k)) (itr (dr2S (md 0) v) 0 k) j) + 1)), (4, .int (nI j)), (3, .int (nI k)), (0, .ref q), (1, .int v)]) hx hb dX6_draws_62 hl (k := 2) rfl rfl (by decide) rfl (fun ls hl => ?_)
                  refine lv_iinc (v := (nI (j + 1))) (lv' := [(4, .int (nI (j + 1))), (2, .int ((itr (dr1S (md 0) v (nI k)) (itr (dr2S (md 0) v) 0 k) j) + 1)), (3, .int (nI k)), (0, .ref q), (1, .int v)]) hx hb dX6_draws_65 hl (k := 1) rfl (k_inc1 _) (by decide) rfl (fun ls hl => ?_)
                  refine lv_goto (tgt := 17) hx hb dX6_draws_68 (by decide) ?_
                  have z_2 : ((itr (dr1S (md 0) v (nI k)) (itr (dr2S (md 0) v) 0 k) j) + 1) = (itr (dr1S (md 0) v (nI k)) (itr (dr2S (md 0) v) 0 k) (j + 1)) := (by rw [itr_s]; simp only [dr1S, eq_false c_11, eq_false c_25, eq_false c_35, eq_true c_39, not_false_eq_true, not_true_eq_false, and_true, true_and, and_false, false_and, and_self, ↓reduceIte, or_true, true_or, or_self, or_false, false_or])
                  have hl := lv_chg (lv_sub hl [1, 0, 2, 3, 4] rfl) z_2
                  exact ih_17 (j + 1) (by omega) (by omega) ls _ _ hM hS (lv_sub hl [1, 2, 0, 3, 4] rfl)
                · skip
                  refine lv_aload_n hx hb dX6_draws_42 rfl (lv_at hl 3 rfl) ?_
                  refine lv_iload hx hb dX6_draws_43 (lv_at hl 0 rfl) ?_
                  refine lv_iload_n hx hb dX6_draws_45 rfl (lv_at hl 1 rfl) ?_
                  refine k_V1 (v := .int (mD (md 0) (nI j) (nI k))) hc [.int (nI j), .int (nI k)] cw_X6_125 rfl dX6_draws_46 (c_X6_drawn l hlf g _ q md (nI j) (nI k) hW (by first | assumption | decide) (by first | assumption | decide)) hW.o hM hS hl.1 rfl rfl ⟨Nat.le_of_ble_eq_true rfl, Nat.le_of_ble_eq_true rfl⟩ ⟨Nat.le_of_ble_eq_true rfl, Nat.le_of_ble_eq_true rfl⟩ (Nat.le_of_ble_eq_true rfl) (fun H locs hM hS => ?_)
                  refine lv_aload_n hx hb dX6_draws_49 rfl (lv_at hl 3 rfl) ?_
                  refine gt_X6_9 hc dX6_draws_50 hM hW.o rfl ?_
                  refine lv_bipush (v := 9) hx hb dX6_draws_53 (by decide) ?_
                  refine lv_iload hx hb dX6_draws_55 (lv_at hl 0 rfl) ?_
                  refine lv_iadd hx hb dX6_draws_57 ?_
                  refine k_iald hc hM (hW.ar 0 (by decide) (by decide) rfl rfl) (inS (by assumption)) dX6_draws_58 ?_
                  refine lv_icmp_ne (tgt := 65) hx hb dX6_draws_59 (by decide) (fun c_59 => ?_) (fun c_59 => ?_)
                  · skip
                    refine lv_iinc (v := (nI (j + 1))) (lv' := [(4, .int (nI (j + 1))), (3, .int (nI k)), (2, .int (itr (dr1S (md 0) v (nI k)) (itr (dr2S (md 0) v) 0 k) j)), (0, .ref q), (1, .int v)]) hx hb dX6_draws_65 hl (k := 0) rfl (k_inc1 _) (by decide) rfl (fun ls hl => ?_)
                    refine lv_goto (tgt := 17) hx hb dX6_draws_68 (by decide) ?_
                    have z_2 : (itr (dr1S (md 0) v (nI k)) (itr (dr2S (md 0) v) 0 k) j) = (itr (dr1S (md 0) v (nI k)) (itr (dr2S (md 0) v) 0 k) (j + 1)) := (by rw [itr_s]; simp only [dr1S, eq_false c_11, eq_false c_25, eq_false c_35, eq_false c_39, eq_false c_59, not_false_eq_true, not_true_eq_false, and_true, true_and, and_false, false_and, and_self, ↓reduceIte, or_true, true_or, or_self, or_false, false_or])
                    have hl := lv_chg (lv_sub hl [2, 0, 1, 3, 4] rfl) z_2
                    exact ih_17 (j + 1) (by omega) (by omega) ls _ _ hM hS (lv_sub hl [1, 2, 0, 3, 4] rfl)
                  · skip
                    refine lv_iinc (v := ((itr (dr1S (md 0) v (nI k)) (itr (dr2S (md 0) v) 0 k) j) + 1)) (lv' := [(2, .int ((itr (dr1S (md 0) v (nI k)) (itr (dr2S (md 0) v) 0 k) j) + 1)), (4, .int (nI j)), (3, .int (nI k)), (0, .ref q), (1, .int v)]) hx hb dX6_draws_62 hl (k := 2) rfl rfl (by decide) rfl (fun ls hl => ?_)
                    refine lv_iinc (v := (nI (j + 1))) (lv' := [(4, .int (nI (j + 1))), (2, .int ((itr (dr1S (md 0) v (nI k)) (itr (dr2S (md 0) v) 0 k) j) + 1)), (3, .int (nI k)), (0, .ref q), (1, .int v)]) hx hb dX6_draws_65 hl (k := 1) rfl (k_inc1 _) (by decide) rfl (fun ls hl => ?_)
                    refine lv_goto (tgt := 17) hx hb dX6_draws_68 (by decide) ?_
                    have z_2 : ((itr (dr1S (md 0) v (nI k)) (itr (dr2S (md 0) v) 0 k) j) + 1) = (itr (dr1S (md 0) v (nI k)) (itr (dr2S (md 0) v) 0 k) (j + 1)) := (by rw [itr_s]; simp only [dr1S, eq_false c_11, eq_false c_25, eq_false c_35, eq_false c_39, eq_true c_59, not_false_eq_true, not_true_eq_false, and_true, true_and, and_false, false_and, and_self, ↓reduceIte, or_true, true_or, or_self, or_false, false_or])
                    have hl := lv_chg (lv_sub hl [1, 0, 2, 3, 4] rfl) z_2
                    exact ih_17 (j + 1) (by omega) (by omega) ls _ _ hM hS (lv_sub hl [1, 2, 0, 3, 4] rfl)
        have z_4 : 0 = (nI 0) := rfl
        have hl := lv_chg (lv_sub hl [0, 1, 2, 3, 4] rfl) z_4
        have z_2 : (itr (dr2S (md 0) v) 0 k) = (itr (dr1S (md 0) v (nI k)) (itr (dr2S (md 0) v) 0 k) 0) := rfl
        have hl := lv_chg (lv_sub hl [2, 0, 1, 3, 4] rfl) z_2
        exact lp_17 ((md 0 2).toNatClampNeg + 1) 0 (by omega) (by omega) ls _ _ hM hS (lv_sub hl [1, 2, 0, 3, 4] rfl)
  have z_3 : 0 = (nI 0) := rfl
  have hl := lv_chg (lv_sub hl [0, 1, 2, 3] rfl) z_3
  have z_2 : 0 = (itr (dr2S (md 0) v) 0 0) := rfl
  have hl := lv_chg (lv_sub hl [1, 0, 2, 3] rfl) z_2
  exact lp_4 ((md 0 4).toNatClampNeg + 1) 0 (by omega) (by omega) ls _ _ hM hS (lv_sub hl [1, 0, 2, 3] rfl)
set_option maxHeartbeats 4000000 in
set_option maxRecDepth 100000 in
theorem c_X6_meanThirst (l : Launch) (hlf : l.stackTraces = false) (g : GC) (M : HM) (q : Nat) (md : FL) (hW : MdAt g M q md) (hI : mOk (md 0)) (hf : ¬ md 0 5 = 0 → vf_n32 (FP.fdiv (FP.i2f (itr (thS (md 0)) 0 (md 0 5).toNatClampNeg)) (FP.i2f (md 0 5)))) : KM g l yX6_meanThirst cX6_meanThirst 4 (some .float) 2 0 0 [.ref q] M (.inl (some (.float (if md 0 5 = 0 then FP.i2f 0 else FP.fdiv (FP.i2f (itr (thS (md 0)) 0 (md 0 5).toNatClampNeg)) (FP.i2f (md 0 5)))), (putD g M q (up2 md 7 19 (if md 0 5 = 0 then 1 else 0))))) := by
  refine k_meth hlf (by decide) (Nat.le_of_ble_eq_true rfl) fun p e s m below meth c ls hc hr hnx hM hS hl => ?_
  have hc : Cx g p l s m [.ref q].toArray meth c cX6_meanThirst 4 RX6 := hc
  have hx := hc.1
  have hb := hc.2.1
  have hl : lv_has ls 4 [(0, .ref q)] := hl
  refine lv_aload_n hx hb dX6_meanThirst_0 rfl (lv_at hl 0 rfl) ?_
  refine lv_iconst (v := 0) hx hb dX6_meanThirst_1 (by decide) ?_
  refine pt_X6_36 hc dX6_meanThirst_2 hM hS hW.o rfl rfl (Nat.le_of_ble_eq_true rfl) (fun H locs hM hS => ?_)
  have hM := hR.eq hM (putD_sc hW 19 (v := 0) md_s19)
  have hW := MdAt.put (g := g) (M := M) (m := q) (md := (up2 md 7 19 0))
  refine lv_aload_n hx hb dX6_meanThirst_5 rfl (lv_at hl 0 rfl) ?_
  refine gt_X6_9 hc dX6_meanThirst_6 hM hW.o rfl ?_
  refine lv_iconst (v := 5) hx hb dX6_meanThirst_9 (by decide) ?_
  refine k_ialdN hc hM (n := 81) (show (putD g M q (up2 md 7 19 0)) (q + 1) = some (.inl (gI g, 81, .inl (md 0))) from (hW.ar 0 (by decide) (by decide) rfl rfl)) (X := 5) rfl (by omega) (by decide) dX6_meanThirst_10 ?_
  refine lv_istore_n (lv' := [(1, .int ((md 0) 5)), (0, .ref q)]) hx hb dX6_meanThirst_11 rfl hl (by decide) rfl (fun ls hl => ?_)
  refine lv_iload_n hx hb dX6_meanThirst_12 rfl (lv_at hl 0 rfl) ?_
  refine lv_if_ne (tgt := 23) hx hb dX6_meanThirst_13 (by decide) (fun c_13 => ?_) (fun c_13 => ?_)
  · skip
    refine lv_iconst (v := 0) hx hb dX6_meanThirst_23 (by decide) ?_
    refine lv_istore_n (lv' := [(2, .int 0), (1, .int ((md 0) 5)), (0, .ref q)]) hx hb dX6_meanThirst_24 rfl hl (by decide) rfl (fun ls hl => ?_)
    refine lv_iconst (v := 0) hx hb dX6_meanThirst_25 (by decide) ?_
    refine lv_istore_n (lv' := [(3, .int 0), (2, .int 0), (1, .int ((md 0) 5)), (0, .ref q)]) hx hb dX6_meanThirst_26 rfl hl (by decide) rfl (fun ls hl => ?_)
    have lp_27 : ∀ (D k : Nat), ((md 0 5).toNatClampNeg) - k < D → k ≤ (md 0 5).toNatClampNeg → ∀ (ls : Array Slot) (H : Heap) (locs : List Loc), hR g (putD g M q (up2 md 7 19 0)) H → va_S (gA g) s.heap H locs → lv_has ls 4 [(3, .int (nI k)), (2, .int (itr (thS (md 0)) 0 k)), (1, .int ((md 0) 5)), (0, .ref q)] → W p l e (rmOf 2 0 0) s m [.ref q].toArray below meth c H locs 0 0 (vx_MQ below (KQ g (.inl (some (.float (if md 0 5 = 0 then FP.i2f 0 else FP.fdiv (FP.i2f (itr (thS (md 0)) 0 (md 0 5).toNatClampNeg)) (FP.i2f (md 0 5)))), (putD g M q (up2 md 7 19 (if md 0 5 = 0 then 1 else 0)))))) (KX g (.inl (some (.float (if md 0 5 = 0 then FP.i2f 0 else FP.fdiv (FP.i2f (itr (thS (md 0)) 0 (md 0 5).toNatClampNeg)) (FP.i2f (md 0 5)))), (putD g M q (up2 md 7 19 (if md 0 5 = 0 then 1 else 0)))))) [.ref q].toArray s 0 0 (gA g)) (F0 m 27 ls []) := by
      intro D
      induction D with
      | zero => intro k hD; exact absurd hD (Nat.not_lt_zero _)
      | succ D ih_27 =>
        intro k hD hk ls H locs hM hS hl
        refine lv_iload_n hx hb dX6_meanThirst_27 rfl (lv_at hl 0 rfl) ?_
        refine lv_iload_n hx hb dX6_meanThirst_28 rfl (lv_at hl 2 rfl) ?_
        refine lv_icmp_ge (tgt := 47) hx hb dX6_meanThirst_29 (by decide) (fun c_29 => ?_) (fun c_29 => ?_)
        · skip
          have c_29 : (md 0 5).toNatClampNeg ≤ k := (k_le (by have := k_clamp_lt (md 0 5); omega)).mp c_29
          have z_2 : (itr (thS (md 0)) 0 k) = (itr (thS (md 0)) 0 (md 0 5).toNatClampNeg) := (by rw [show k = (md 0 5).toNatClampNeg by omega])
          have hl := lv_chg (lv_sub hl [1, 0, 2, 3] rfl) z_2
          refine lv_iload_n hx hb dX6_meanThirst_47 rfl (lv_at hl 0 rfl) ?_
          refine lv_i2f hx hb dX6_meanThirst_48 ?_
          refine lv_iload_n hx hb dX6_meanThirst_49 rfl (lv_at hl 2 rfl) ?_
          refine lv_i2f hx hb dX6_meanThirst_50 ?_
          refine lv_fdiv hx hb dX6_meanThirst_51 (hf c_13) ?_
          exact k_fret hc hr dX6_meanThirst_52 hM hS (Nat.le_of_ble_eq_true rfl) (Nat.le_of_ble_eq_true rfl) (by first | (simp only [eq_false c_13, eq_self, bM_l, bM_r, rsM_l, rsM_r, seV_l, seV_r, snE_l, snE_r, up1_at, up1_up1, up2_up2, not_false_eq_true, not_true_eq_false, and_true, true_and, and_false, false_and, and_self, ↓reduceIte, or_true, true_or, or_self, or_false, false_or]; done) | (simp only [eq_false c_13, eq_self, bM_l, bM_r, rsM_l, rsM_r, seV_l, seV_r, snE_l, snE_r, up1_at, up1_up1, up2_up2, not_false_eq_true, not_true_eq_false, and_true, true_and, and_false, false_and, and_self, ↓reduceIte, or_true, true_or, or_self, or_false, false_or]; rfl))
        · skip
          have c_29 : ¬ (md 0 5).toNatClampNeg ≤ k := fun h => c_29 ((k_le (by have := k_clamp_lt (md 0 5); omega)).mpr h)
          have ok_29 := kC_ok (f := md 0) hI c_29
          refine lv_iload_n hx hb dX6_meanThirst_32 rfl (lv_at hl 1 rfl) ?_
          refine lv_aload_n hx hb dX6_meanThirst_33 rfl (lv_at hl 3 rfl) ?_
          refine lv_iload_n hx hb dX6_meanThirst_34 rfl (lv_at hl 0 rfl) ?_
          refine lv_iconst (v := 1) hx hb dX6_meanThirst_35 (by decide) ?_
          refine k_V1 (v := .int (mC (md 0) (nI k) 1)) hc [.int (nI k), .int 1] cw_X6_68 rfl dX6_meanThirst_36 (c_X6_ofCamel l hlf g _ q (up2 md 7 19 0) (nI k) 1 hW (by first | assumption | decide) (by first | assumption | decide)) hW.o hM hS hl.1 rfl rfl ⟨Nat.le_of_ble_eq_true rfl, Nat.le_of_ble_eq_true rfl⟩ ⟨Nat.le_of_ble_eq_true rfl, Nat.le_of_ble_eq_true rfl⟩ (Nat.le_of_ble_eq_true rfl) (fun H locs hM hS => ?_)
          refine lv_iadd hx hb dX6_meanThirst_39 ?_
          refine lv_istore_n (lv' := [(2, .int ((itr (thS (md 0)) 0 k) + (mC (md 0) (nI k) 1))), (3, .int (nI k)), (1, .int ((md 0) 5)), (0, .ref q)]) hx hb dX6_meanThirst_40 rfl hl (by decide) rfl (fun ls hl => ?_)
          refine lv_iinc (v := (nI (k + 1))) (lv' := [(3, .int (nI (k + 1))), (2, .int ((itr (thS (md 0)) 0 k) + (mC (md 0) (nI k) 1))), (1, .int ((md 0) 5)), (0, .ref q)]) hx hb dX6_meanThirst_41 hl (k := 1) rfl (k_inc1 _) (by decide) rfl (fun ls hl => ?_)
          refine lv_goto (tgt := 27) hx hb dX6_meanThirst_44 (by decide) ?_
          have z_2 : ((itr (thS (md 0)) 0 k) + (mC (md 0) (nI k) 1)) = (itr (thS (md 0)) 0 (k + 1)) := rfl
          have hl := lv_chg (lv_sub hl [1, 0, 2, 3] rfl) z_2
          exact ih_27 (k + 1) (by omega) (by omega) ls _ _ hM hS (lv_sub hl [1, 0, 2, 3] rfl)
    have z_3 : 0 = (nI 0) := rfl
    have hl := lv_chg (lv_sub hl [0, 1, 2, 3] rfl) z_3
    have z_2 : 0 = (itr (thS (md 0)) 0 0) := rfl
    have hl := lv_chg (lv_sub hl [1, 0, 2, 3] rfl) z_2
    exact lp_27 ((md 0 5).toNatClampNeg + 1) 0 (by omega) (by omega) ls _ _ hM hS (lv_sub hl [1, 0, 2, 3] rfl)
  · skip
    refine lv_aload_n hx hb dX6_meanThirst_16 rfl (lv_at hl 1 rfl) ?_
    refine lv_iconst (v := 1) hx hb dX6_meanThirst_17 (by decide) ?_
    refine k_V1 (v := .int 0) hc [.int 1] cw_X6_61 rfl dX6_meanThirst_18 (c_X6_raises l hlf g _ q (up2 md 7 19 0) 1 hW) hW.o hM hS hl.1 rfl rfl ⟨Nat.le_of_ble_eq_true rfl, Nat.le_of_ble_eq_true rfl⟩ ⟨Nat.le_of_ble_eq_true rfl, Nat.le_of_ble_eq_true rfl⟩ (Nat.le_of_ble_eq_true rfl) (fun H locs hM hS => ?_)
    have hM := hR.eq hM putD_putD
    have hW := MdAt.put (g := g) (M := M) (m := q) (md := (up2 (up2 md 7 19 0) 7 19 1))
    refine lv_i2f hx hb dX6_meanThirst_21 ?_
    exact k_fret hc hr dX6_meanThirst_22 hM hS (Nat.le_of_ble_eq_true rfl) (Nat.le_of_ble_eq_true rfl) (by first | (simp only [eq_true c_13, eq_self, bM_l, bM_r, rsM_l, rsM_r, seV_l, seV_r, snE_l, snE_r, up1_at, up1_up1, up2_up2, not_false_eq_true, not_true_eq_false, and_true, true_and, and_false, false_and, and_self, ↓reduceIte, or_true, true_or, or_self, or_false, false_or]; done) | (simp only [eq_true c_13, eq_self, bM_l, bM_r, rsM_l, rsM_r, seV_l, seV_r, snE_l, snE_r, up1_at, up1_up1, up2_up2, not_false_eq_true, not_true_eq_false, and_true, true_and, and_false, false_and, and_self, ↓reduceIte, or_true, true_or, or_self, or_false, false_or]; rfl))
set_option maxHeartbeats 4000000 in
set_option maxRecDepth 100000 in
theorem c_X6_rightShare (l : Launch) (hlf : l.stackTraces = false) (g : GC) (M : HM) (q : Nat) (md : FL) (hW : MdAt g M q md) (hI : mOk (md 0)) (hf : ¬ dwM (md 0) 0 = 0 → vf_n64 (FP.ddiv (FP.i2d (dwM (md 0) 1)) (FP.i2d (dwM (md 0) 0)))) : KM g l yX6_rightShare cX6_rightShare 2 (some .double) 3 0 0 [.ref q] M (.inl (some (.double (if dwM (md 0) 0 = 0 then FP.i2d 0 else FP.ddiv (FP.i2d (dwM (md 0) 1)) (FP.i2d (dwM (md 0) 0)))), (putD g M q (up2 md 7 19 (if dwM (md 0) 0 = 0 then 1 else 0))))) := by
  refine k_meth hlf (by decide) (Nat.le_of_ble_eq_true rfl) fun p e s m below meth c ls hc hr hnx hM hS hl => ?_
  have hc : Cx g p l s m [.ref q].toArray meth c cX6_rightShare 2 RX6 := hc
  have hx := hc.1
  have hb := hc.2.1
  have hl : lv_has ls 2 [(0, .ref q)] := hl
  refine lv_aload_n hx hb dX6_rightShare_0 rfl (lv_at hl 0 rfl) ?_
  refine lv_iconst (v := 0) hx hb dX6_rightShare_1 (by decide) ?_
  refine pt_X6_36 hc dX6_rightShare_2 hM hS hW.o rfl rfl (Nat.le_of_ble_eq_true rfl) (fun H locs hM hS => ?_)
  have hM := hR.eq hM (putD_sc hW 19 (v := 0) md_s19)
  have hW := MdAt.put (g := g) (M := M) (m := q) (md := (up2 md 7 19 0))
  refine lv_aload_n hx hb dX6_rightShare_5 rfl (lv_at hl 0 rfl) ?_
  refine lv_iconst (v := 0) hx hb dX6_rightShare_6 (by decide) ?_
  refine k_V1 (v := .int (dwM (md 0) 0)) hc [.int 0] cw_X6_205 rfl dX6_rightShare_7 (c_X6_draws l hlf g _ q (up2 md 7 19 0) 0 hW (by first | assumption | exact hI)) hW.o hM hS hl.1 rfl rfl ⟨Nat.le_of_ble_eq_true rfl, Nat.le_of_ble_eq_true rfl⟩ ⟨Nat.le_of_ble_eq_true rfl, Nat.le_of_ble_eq_true rfl⟩ (Nat.le_of_ble_eq_true rfl) (fun H locs hM hS => ?_)
  refine lv_istore_n (lv' := [(1, .int (dwM (md 0) 0)), (0, .ref q)]) hx hb dX6_rightShare_10 rfl hl (by decide) rfl (fun ls hl => ?_)
  refine lv_iload_n hx hb dX6_rightShare_11 rfl (lv_at hl 0 rfl) ?_
  refine lv_if_ne (tgt := 24) hx hb dX6_rightShare_12 (by decide) (fun c_12 => ?_) (fun c_12 => ?_)
  · skip
    refine lv_aload_n hx hb dX6_rightShare_24 rfl (lv_at hl 1 rfl) ?_
    refine lv_iconst (v := 1) hx hb dX6_rightShare_25 (by decide) ?_
    refine k_V1 (v := .int (dwM (md 0) 1)) hc [.int 1] cw_X6_205 rfl dX6_rightShare_26 (c_X6_draws l hlf g _ q (up2 md 7 19 0) 1 hW (by first | assumption | exact hI)) hW.o hM hS hl.1 rfl rfl ⟨Nat.le_of_ble_eq_true rfl, Nat.le_of_ble_eq_true rfl⟩ ⟨Nat.le_of_ble_eq_true rfl, Nat.le_of_ble_eq_true rfl⟩ (Nat.le_of_ble_eq_true rfl) (fun H locs hM hS => ?_)
    refine lv_i2d hx hb dX6_rightShare_29 ?_
    refine lv_iload_n hx hb dX6_rightShare_30 rfl (lv_at hl 0 rfl) ?_
    refine lv_i2d hx hb dX6_rightShare_31 ?_
    refine lv_ddiv hx hb dX6_rightShare_32 (hf c_12) ?_
    exact k_dret hc hr dX6_rightShare_33 hM hS (Nat.le_of_ble_eq_true rfl) (Nat.le_of_ble_eq_true rfl) (by first | (simp only [eq_false c_12, eq_self, bM_l, bM_r, rsM_l, rsM_r, seV_l, seV_r, snE_l, snE_r, up1_at, up1_up1, up2_up2, not_false_eq_true, not_true_eq_false, and_true, true_and, and_false, false_and, and_self, ↓reduceIte, or_true, true_or, or_self, or_false, false_or]; done) | (simp only [eq_false c_12, eq_self, bM_l, bM_r, rsM_l, rsM_r, seV_l, seV_r, snE_l, snE_r, up1_at, up1_up1, up2_up2, not_false_eq_true, not_true_eq_false, and_true, true_and, and_false, false_and, and_self, ↓reduceIte, or_true, true_or, or_self, or_false, false_or]; rfl))
  · skip
    refine lv_aload_n hx hb dX6_rightShare_15 rfl (lv_at hl 1 rfl) ?_
    refine lv_iconst (v := 1) hx hb dX6_rightShare_16 (by decide) ?_
    refine k_V1 (v := .int 0) hc [.int 1] cw_X6_61 rfl dX6_rightShare_17 (c_X6_raises l hlf g _ q (up2 md 7 19 0) 1 hW) hW.o hM hS hl.1 rfl rfl ⟨Nat.le_of_ble_eq_true rfl, Nat.le_of_ble_eq_true rfl⟩ ⟨Nat.le_of_ble_eq_true rfl, Nat.le_of_ble_eq_true rfl⟩ (Nat.le_of_ble_eq_true rfl) (fun H locs hM hS => ?_)
    have hM := hR.eq hM putD_putD
    have hW := MdAt.put (g := g) (M := M) (m := q) (md := (up2 (up2 md 7 19 0) 7 19 1))
    refine lv_i2d hx hb dX6_rightShare_20 ?_
    refine lv_goto (tgt := 33) hx hb dX6_rightShare_21 (by decide) ?_
    exact k_dret hc hr dX6_rightShare_33 hM hS (Nat.le_of_ble_eq_true rfl) (Nat.le_of_ble_eq_true rfl) (by first | (simp only [eq_true c_12, eq_self, bM_l, bM_r, rsM_l, rsM_r, seV_l, seV_r, snE_l, snE_r, up1_at, up1_up1, up2_up2, not_false_eq_true, not_true_eq_false, and_true, true_and, and_false, false_and, and_self, ↓reduceIte, or_true, true_or, or_self, or_false, false_or]; done) | (simp only [eq_true c_12, eq_self, bM_l, bM_r, rsM_l, rsM_r, seV_l, seV_r, snE_l, snE_r, up1_at, up1_up1, up2_up2, not_false_eq_true, not_true_eq_false, and_true, true_and, and_false, false_and, and_self, ↓reduceIte, or_true, true_or, or_self, or_false, false_or]; rfl))
set_option maxHeartbeats 4000000 in
set_option maxRecDepth 100000 in
theorem c_X6_account (l : Launch) (hlf : l.stackTraces = false) (g : GC) (M : HM) (q : Nat) (md : FL) (v : Int32) (hW : MdAt g M q md) (hI : mOk (md 0)) : KM g l yX6_account cX6_account 4 (some .int) 6 0 0 [.ref q, .int v] M (.inl (some (.int (acM md v)), (putD g M q (up2 md 7 19 (if v = 0 ∨ v = 1 ∨ v = 2 ∨ v = 3 ∨ v = 4 ∨ v = 5 ∨ v = 6 ∨ v = 7 ∨ v = 8 ∨ v = 9 ∨ v = 10 ∨ v = 11 ∨ v = 12 ∨ v = 13 ∨ v = 14 ∨ v = 15 ∨ v = 16 then 0 else 1))))) := by
  refine k_meth hlf (by decide) (Nat.le_of_ble_eq_true rfl) fun p e s m below meth c ls hc hr hnx hM hS hl => ?_
  have hc : Cx g p l s m [.ref q, .int v].toArray meth c cX6_account 4 RX6 := hc
  have hx := hc.1
  have hb := hc.2.1
  have hl : lv_has ls 4 [(0, .ref q), (1, .int v)] := hl
  refine lv_aload_n hx hb dX6_account_0 rfl (lv_at hl 0 rfl) ?_
  refine lv_iconst (v := 0) hx hb dX6_account_1 (by decide) ?_
  refine pt_X6_36 hc dX6_account_2 hM hS hW.o rfl rfl (Nat.le_of_ble_eq_true rfl) (fun H locs hM hS => ?_)
  have hM := hR.eq hM (putD_sc hW 19 (v := 0) md_s19)
  have hW := MdAt.put (g := g) (M := M) (m := q) (md := (up2 md 7 19 0))
  refine lv_iconst (v := 0) hx hb dX6_account_5 (by decide) ?_
  refine lv_istore_n (lv' := [(2, .int 0), (0, .ref q), (1, .int v)]) hx hb dX6_account_6 rfl hl (by decide) rfl (fun ls hl => ?_)
  refine lv_iload_n hx hb dX6_account_7 rfl (lv_at hl 2 rfl) ?_
  by_cases c_8_0 : v = 0
  · skip
    have e_8 : v.toInt = 0 := by rw [c_8_0]; rfl
    refine lv_tableIn (tgt := 92) hx hb dX6_account_8 (by rw [e_8]; decide) (by rw [e_8]; decide) (by rw [e_8]; rfl) (by decide) ?_
    refine lv_aload_n hx hb dX6_account_92 rfl (lv_at hl 1 rfl) ?_
    refine gt_X6_9 hc dX6_account_93 hM hW.o rfl ?_
    refine lv_iconst (v := 0) hx hb dX6_account_96 (by decide) ?_
    refine k_ialdN hc hM (n := 81) (show (putD g M q (up2 md 7 19 0)) (q + 1) = some (.inl (gI g, 81, .inl (md 0))) from (hW.ar 0 (by decide) (by decide) rfl rfl)) (X := 0) rfl (by omega) (by decide) dX6_account_97 ?_
    exact k_iret hc hr dX6_account_98 hM hS (Nat.le_of_ble_eq_true rfl) (Nat.le_of_ble_eq_true rfl) (by first | (simp only [acM, eq_true c_8_0, eq_self, bM_l, bM_r, rsM_l, rsM_r, seV_l, seV_r, snE_l, snE_r, up1_at, up1_up1, up2_up2, not_false_eq_true, not_true_eq_false, and_true, true_and, and_false, false_and, and_self, ↓reduceIte, or_true, true_or, or_self, or_false, false_or]; done) | (simp only [acM, eq_true c_8_0, eq_self, bM_l, bM_r, rsM_l, rsM_r, seV_l, seV_r, snE_l, snE_r, up1_at, up1_up1, up2_up2, not_false_eq_true, not_true_eq_false, and_true, true_and, and_false, false_and, and_self, ↓reduceIte, or_true, true_or, or_self, or_false, false_or]; rfl))
  by_cases c_8_1 : v = 1
  · skip
    have e_8 : v.toInt = 1 := by rw [c_8_1]; rfl
    refine lv_tableIn (tgt := 99) hx hb dX6_account_8 (by rw [e_8]; decide) (by rw [e_8]; decide) (by rw [e_8]; rfl) (by decide) ?_
    refine lv_aload_n hx hb dX6_account_99 rfl (lv_at hl 1 rfl) ?_
    refine gt_X6_9 hc dX6_account_100 hM hW.o rfl ?_
    refine lv_iconst (v := 0) hx hb dX6_account_103 (by decide) ?_
    refine k_ialdN hc hM (n := 81) (show (putD g M q (up2 md 7 19 0)) (q + 1) = some (.inl (gI g, 81, .inl (md 0))) from (hW.ar 0 (by decide) (by decide) rfl rfl)) (X := 0) rfl (by omega) (by decide) dX6_account_104 ?_
    refine lv_bipush (v := 24) hx hb dX6_account_105 (by decide) ?_
    refine lv_irem hx hb dX6_account_107 (by decide) ?_
    exact k_iret hc hr dX6_account_108 hM hS (Nat.le_of_ble_eq_true rfl) (Nat.le_of_ble_eq_true rfl) (by first | (simp only [acM, eq_false c_8_0, eq_true c_8_1, eq_self, bM_l, bM_r, rsM_l, rsM_r, seV_l, seV_r, snE_l, snE_r, up1_at, up1_up1, up2_up2, not_false_eq_true, not_true_eq_false, and_true, true_and, and_false, false_and, and_self, ↓reduceIte, or_true, true_or, or_self, or_false, false_or]; done) | (simp only [acM, eq_false c_8_0, eq_true c_8_1, eq_self, bM_l, bM_r, rsM_l, rsM_r, seV_l, seV_r, snE_l, snE_r, up1_at, up1_up1, up2_up2, not_false_eq_true, not_true_eq_false, and_true, true_and, and_false, false_and, and_self, ↓reduceIte, or_true, true_or, or_self, or_false, false_or]; rfl))
  by_cases c_8_2 : v = 2
  · skip
    have e_8 : v.toInt = 2 := by rw [c_8_2]; rfl
    refine lv_tableIn (tgt := 109) hx hb dX6_account_8 (by rw [e_8]; decide) (by rw [e_8]; decide) (by rw [e_8]; rfl) (by decide) ?_
    refine lv_aload_n hx hb dX6_account_109 rfl (lv_at hl 1 rfl) ?_
    refine lv_iconst (v := 0) hx hb dX6_account_110 (by decide) ?_
    refine k_V1 (v := .int (mHb (md 0) 0)) hc [.int 0] cw_X6_88 rfl dX6_account_111 (c_X6_heatBehind l hlf g _ q (up2 md 7 19 0) 0 hW) hW.o hM hS hl.1 rfl rfl ⟨Nat.le_of_ble_eq_true rfl, Nat.le_of_ble_eq_true rfl⟩ ⟨Nat.le_of_ble_eq_true rfl, Nat.le_of_ble_eq_true rfl⟩ (Nat.le_of_ble_eq_true rfl) (fun H locs hM hS => ?_)
    exact k_iret hc hr dX6_account_114 hM hS (Nat.le_of_ble_eq_true rfl) (Nat.le_of_ble_eq_true rfl) (by first | (simp only [acM, eq_false c_8_0, eq_false c_8_1, eq_true c_8_2, eq_self, bM_l, bM_r, rsM_l, rsM_r, seV_l, seV_r, snE_l, snE_r, up1_at, up1_up1, up2_up2, not_false_eq_true, not_true_eq_false, and_true, true_and, and_false, false_and, and_self, ↓reduceIte, or_true, true_or, or_self, or_false, false_or]; done) | (simp only [acM, eq_false c_8_0, eq_false c_8_1, eq_true c_8_2, eq_self, bM_l, bM_r, rsM_l, rsM_r, seV_l, seV_r, snE_l, snE_r, up1_at, up1_up1, up2_up2, not_false_eq_true, not_true_eq_false, and_true, true_and, and_false, false_and, and_self, ↓reduceIte, or_true, true_or, or_self, or_false, false_or]; rfl))
  by_cases c_8_3 : v = 3
  · skip
    have e_8 : v.toInt = 3 := by rw [c_8_3]; rfl
    refine lv_tableIn (tgt := 115) hx hb dX6_account_8 (by rw [e_8]; decide) (by rw [e_8]; decide) (by rw [e_8]; rfl) (by decide) ?_
    refine lv_aload_n hx hb dX6_account_115 rfl (lv_at hl 1 rfl) ?_
    refine gt_X6_9 hc dX6_account_116 hM hW.o rfl ?_
    refine lv_iconst (v := 1) hx hb dX6_account_119 (by decide) ?_
    refine k_ialdN hc hM (n := 81) (show (putD g M q (up2 md 7 19 0)) (q + 1) = some (.inl (gI g, 81, .inl (md 0))) from (hW.ar 0 (by decide) (by decide) rfl rfl)) (X := 1) rfl (by omega) (by decide) dX6_account_120 ?_
    exact k_iret hc hr dX6_account_121 hM hS (Nat.le_of_ble_eq_true rfl) (Nat.le_of_ble_eq_true rfl) (by first | (simp only [acM, eq_false c_8_0, eq_false c_8_1, eq_false c_8_2, eq_true c_8_3, eq_self, bM_l, bM_r, rsM_l, rsM_r, seV_l, seV_r, snE_l, snE_r, up1_at, up1_up1, up2_up2, not_false_eq_true, not_true_eq_false, and_true, true_and, and_false, false_and, and_self, ↓reduceIte, or_true, true_or, or_self, or_false, false_or]; done) | (simp only [acM, eq_false c_8_0, eq_false c_8_1, eq_false c_8_2, eq_true c_8_3, eq_self, bM_l, bM_r, rsM_l, rsM_r, seV_l, seV_r, snE_l, snE_r, up1_at, up1_up1, up2_up2, not_false_eq_true, not_true_eq_false, and_true, true_and, and_false, false_and, and_self, ↓reduceIte, or_true, true_or, or_self, or_false, false_or]; rfl))
  by_cases c_8_4 : v = 4
  · skip
    have e_8 : v.toInt = 4 := by rw [c_8_4]; rfl
    refine lv_tableIn (tgt := 122) hx hb dX6_account_8 (by rw [e_8]; decide) (by rw [e_8]; decide) (by rw [e_8]; rfl) (by decide) ?_
    refine lv_aload_n hx hb dX6_account_122 rfl (lv_at hl 1 rfl) ?_
    refine gt_X6_9 hc dX6_account_123 hM hW.o rfl ?_
    refine lv_iload_n hx hb dX6_account_126 rfl (lv_at hl 2 rfl) ?_
    refine lv_iconst (v := 2) hx hb dX6_account_127 (by decide) ?_
    refine lv_isub hx hb dX6_account_128 ?_
    refine k_ialdN hc hM (n := 81) (show (putD g M q (up2 md 7 19 0)) (q + 1) = some (.inl (gI g, 81, .inl (md 0))) from (hW.ar 0 (by decide) (by decide) rfl rfl)) (X := 2) (by rw [c_8_4]; rfl) (by decide) (by decide) dX6_account_129 ?_
    exact k_iret hc hr dX6_account_130 hM hS (Nat.le_of_ble_eq_true rfl) (Nat.le_of_ble_eq_true rfl) (by first | (simp only [acM, eq_false c_8_0, eq_false c_8_1, eq_false c_8_2, eq_false c_8_3, eq_true c_8_4, eq_self, bM_l, bM_r, rsM_l, rsM_r, seV_l, seV_r, snE_l, snE_r, up1_at, up1_up1, up2_up2, not_false_eq_true, not_true_eq_false, and_true, true_and, and_false, false_and, and_self, ↓reduceIte, or_true, true_or, or_self, or_false, false_or]; done) | (simp only [acM, eq_false c_8_0, eq_false c_8_1, eq_false c_8_2, eq_false c_8_3, eq_true c_8_4, eq_self, bM_l, bM_r, rsM_l, rsM_r, seV_l, seV_r, snE_l, snE_r, up1_at, up1_up1, up2_up2, not_false_eq_true, not_true_eq_false, and_true, true_and, and_false, false_and, and_self, ↓reduceIte, or_true, true_or, or_self, or_false, false_or]; rfl))
  by_cases c_8_5 : v = 5
  · skip
    have e_8 : v.toInt = 5 := by rw [c_8_5]; rfl
    refine lv_tableIn (tgt := 122) hx hb dX6_account_8 (by rw [e_8]; decide) (by rw [e_8]; decide) (by rw [e_8]; rfl) (by decide) ?_
    refine lv_aload_n hx hb dX6_account_122 rfl (lv_at hl 1 rfl) ?_
    refine gt_X6_9 hc dX6_account_123 hM hW.o rfl ?_
    refine lv_iload_n hx hb dX6_account_126 rfl (lv_at hl 2 rfl) ?_
    refine lv_iconst (v := 2) hx hb dX6_account_127 (by decide) ?_
    refine lv_isub hx hb dX6_account_128 ?_
    refine k_ialdN hc hM (n := 81) (show (putD g M q (up2 md 7 19 0)) (q + 1) = some (.inl (gI g, 81, .inl (md 0))) from (hW.ar 0 (by decide) (by decide) rfl rfl)) (X := 3) (by rw [c_8_5]; rfl) (by decide) (by decide) dX6_account_129 ?_
    exact k_iret hc hr dX6_account_130 hM hS (Nat.le_of_ble_eq_true rfl) (Nat.le_of_ble_eq_true rfl) (by first | (simp only [acM, eq_false c_8_0, eq_false c_8_1, eq_false c_8_2, eq_false c_8_3, eq_false c_8_4, eq_true c_8_5, eq_self, bM_l, bM_r, rsM_l, rsM_r, seV_l, seV_r, snE_l, snE_r, up1_at, up1_up1, up2_up2, not_false_eq_true, not_true_eq_false, and_true, true_and, and_false, false_and, and_self, ↓reduceIte, or_true, true_or, or_self, or_false, false_or]; done) | (simp only [acM, eq_false c_8_0, eq_false c_8_1, eq_false c_8_2, eq_false c_8_3, eq_false c_8_4, eq_true c_8_5, eq_self, bM_l, bM_r, rsM_l, rsM_r, seV_l, seV_r, snE_l, snE_r, up1_at, up1_up1, up2_up2, not_false_eq_true, not_true_eq_false, and_true, true_and, and_false, false_and, and_self, ↓reduceIte, or_true, true_or, or_self, or_false, false_or]; rfl))
  by_cases c_8_6 : v = 6
  · skip
    have e_8 : v.toInt = 6 := by rw [c_8_6]; rfl
    refine lv_tableIn (tgt := 122) hx hb dX6_account_8 (by rw [e_8]; decide) (by rw [e_8]; decide) (by rw [e_8]; rfl) (by decide) ?_
    refine lv_aload_n hx hb dX6_account_122 rfl (lv_at hl 1 rfl) ?_
    refine gt_X6_9 hc dX6_account_123 hM hW.o rfl ?_
    refine lv_iload_n hx hb dX6_account_126 rfl (lv_at hl 2 rfl) ?_
    refine lv_iconst (v := 2) hx hb dX6_account_127 (by decide) ?_
    refine lv_isub hx hb dX6_account_128 ?_
    refine k_ialdN hc hM (n := 81) (show (putD g M q (up2 md 7 19 0)) (q + 1) = some (.inl (gI g, 81, .inl (md 0))) from (hW.ar 0 (by decide) (by decide) rfl rfl)) (X := 4) (by rw [c_8_6]; rfl) (by decide) (by decide) dX6_account_129 ?_
    exact k_iret hc hr dX6_account_130 hM hS (Nat.le_of_ble_eq_true rfl) (Nat.le_of_ble_eq_true rfl) (by first | (simp only [acM, eq_false c_8_0, eq_false c_8_1, eq_false c_8_2, eq_false c_8_3, eq_false c_8_4, eq_false c_8_5, eq_true c_8_6, eq_self, bM_l, bM_r, rsM_l, rsM_r, seV_l, seV_r, snE_l, snE_r, up1_at, up1_up1, up2_up2, not_false_eq_true, not_true_eq_false, and_true, true_and, and_false, false_and, and_self, ↓reduceIte, or_true, true_or, or_self, or_false, false_or]; done) | (simp only [acM, eq_false c_8_0, eq_false c_8_1, eq_false c_8_2, eq_false c_8_3, eq_false c_8_4, eq_false c_8_5, eq_true c_8_6, eq_self, bM_l, bM_r, rsM_l, rsM_r, seV_l, seV_r, snE_l, snE_r, up1_at, up1_up1, up2_up2, not_false_eq_true, not_true_eq_false, and_true, true_and, and_false, false_and, and_self, ↓reduceIte, or_true, true_or, or_self, or_false, false_or]; rfl))
  by_cases c_8_7 : v = 7
  · skip
    have e_8 : v.toInt = 7 := by rw [c_8_7]; rfl
    refine lv_tableIn (tgt := 131) hx hb dX6_account_8 (by rw [e_8]; decide) (by rw [e_8]; decide) (by rw [e_8]; rfl) (by decide) ?_
    refine lv_aload_n hx hb dX6_account_131 rfl (lv_at hl 1 rfl) ?_
    refine lv_iconst (v := 0) hx hb dX6_account_132 (by decide) ?_
    refine k_V1 (v := .int (dwM (md 0) 0)) hc [.int 0] cw_X6_205 rfl dX6_account_133 (c_X6_draws l hlf g _ q (up2 md 7 19 0) 0 hW (by first | assumption | exact hI)) hW.o hM hS hl.1 rfl rfl ⟨Nat.le_of_ble_eq_true rfl, Nat.le_of_ble_eq_true rfl⟩ ⟨Nat.le_of_ble_eq_true rfl, Nat.le_of_ble_eq_true rfl⟩ (Nat.le_of_ble_eq_true rfl) (fun H locs hM hS => ?_)
    exact k_iret hc hr dX6_account_136 hM hS (Nat.le_of_ble_eq_true rfl) (Nat.le_of_ble_eq_true rfl) (by first | (simp only [acM, eq_false c_8_0, eq_false c_8_1, eq_false c_8_2, eq_false c_8_3, eq_false c_8_4, eq_false c_8_5, eq_false c_8_6, eq_true c_8_7, eq_self, bM_l, bM_r, rsM_l, rsM_r, seV_l, seV_r, snE_l, snE_r, up1_at, up1_up1, up2_up2, not_false_eq_true, not_true_eq_false, and_true, true_and, and_false, false_and, and_self, ↓reduceIte, or_true, true_or, or_self, or_false, false_or]; done) | (simp only [acM, eq_false c_8_0, eq_false c_8_1, eq_false c_8_2, eq_false c_8_3, eq_false c_8_4, eq_false c_8_5, eq_false c_8_6, eq_true c_8_7, eq_self, bM_l, bM_r, rsM_l, rsM_r, seV_l, seV_r, snE_l, snE_r, up1_at, up1_up1, up2_up2, not_false_eq_true, not_true_eq_false, and_true, true_and, and_false, false_and, and_self, ↓reduceIte, or_true, true_or, or_self, or_false, false_or]; rfl))
  by_cases c_8_8 : v = 8
  · skip
    have e_8 : v.toInt = 8 := by rw [c_8_8]; rfl
    refine lv_tableIn (tgt := 137) hx hb dX6_account_8 (by rw [e_8]; decide) (by rw [e_8]; decide) (by rw [e_8]; rfl) (by decide) ?_
    refine lv_aload_n hx hb dX6_account_137 rfl (lv_at hl 1 rfl) ?_
    refine gt_X6_9 hc dX6_account_138 hM hW.o rfl ?_
    refine lv_iconst (v := 5) hx hb dX6_account_141 (by decide) ?_
    refine k_ialdN hc hM (n := 81) (show (putD g M q (up2 md 7 19 0)) (q + 1) = some (.inl (gI g, 81, .inl (md 0))) from (hW.ar 0 (by decide) (by decide) rfl rfl)) (X := 5) rfl (by omega) (by decide) dX6_account_142 ?_
    exact k_iret hc hr dX6_account_143 hM hS (Nat.le_of_ble_eq_true rfl) (Nat.le_of_ble_eq_true rfl) (by first | (simp only [acM, eq_false c_8_0, eq_false c_8_1, eq_false c_8_2, eq_false c_8_3, eq_false c_8_4, eq_false c_8_5, eq_false c_8_6, eq_false c_8_7, eq_true c_8_8, eq_self, bM_l, bM_r, rsM_l, rsM_r, seV_l, seV_r, snE_l, snE_r, up1_at, up1_up1, up2_up2, not_false_eq_true, not_true_eq_false, and_true, true_and, and_false, false_and, and_self, ↓reduceIte, or_true, true_or, or_self, or_false, false_or]; done) | (simp only [acM, eq_false c_8_0, eq_false c_8_1, eq_false c_8_2, eq_false c_8_3, eq_false c_8_4, eq_false c_8_5, eq_false c_8_6, eq_false c_8_7, eq_true c_8_8, eq_self, bM_l, bM_r, rsM_l, rsM_r, seV_l, seV_r, snE_l, snE_r, up1_at, up1_up1, up2_up2, not_false_eq_true, not_true_eq_false, and_true, true_and, and_false, false_and, and_self, ↓reduceIte, or_true, true_or, or_self, or_false, false_or]; rfl))
  by_cases c_8_9 : v = 9
  · skip
    have e_8 : v.toInt = 9 := by rw [c_8_9]; rfl
    refine lv_tableIn (tgt := 144) hx hb dX6_account_8 (by rw [e_8]; decide) (by rw [e_8]; decide) (by rw [e_8]; rfl) (by decide) ?_
    refine lv_aload_n hx hb dX6_account_144 rfl (lv_at hl 1 rfl) ?_
    refine k_V1 (v := .int (tdM (md 0))) hc [] cw_X6_144 rfl dX6_account_145 (c_X6_tied l hlf g _ q (up2 md 7 19 0) hW (by first | assumption | exact hI)) hW.o hM hS hl.1 rfl rfl ⟨Nat.le_of_ble_eq_true rfl, Nat.le_of_ble_eq_true rfl⟩ ⟨Nat.le_of_ble_eq_true rfl, Nat.le_of_ble_eq_true rfl⟩ (Nat.le_of_ble_eq_true rfl) (fun H locs hM hS => ?_)
    exact k_iret hc hr dX6_account_148 hM hS (Nat.le_of_ble_eq_true rfl) (Nat.le_of_ble_eq_true rfl) (by first | (simp only [acM, eq_false c_8_0, eq_false c_8_1, eq_false c_8_2, eq_false c_8_3, eq_false c_8_4, eq_false c_8_5, eq_false c_8_6, eq_false c_8_7, eq_false c_8_8, eq_true c_8_9, eq_self, bM_l, bM_r, rsM_l, rsM_r, seV_l, seV_r, snE_l, snE_r, up1_at, up1_up1, up2_up2, not_false_eq_true, not_true_eq_false, and_true, true_and, and_false, false_and, and_self, ↓reduceIte, or_true, true_or, or_self, or_false, false_or]; done) | (simp only [acM, eq_false c_8_0, eq_false c_8_1, eq_false c_8_2, eq_false c_8_3, eq_false c_8_4, eq_false c_8_5, eq_false c_8_6, eq_false c_8_7, eq_false c_8_8, eq_true c_8_9, eq_self, bM_l, bM_r, rsM_l, rsM_r, seV_l, seV_r, snE_l, snE_r, up1_at, up1_up1, up2_up2, not_false_eq_true, not_true_eq_false, and_true, true_and, and_false, false_and, and_self, ↓reduceIte, or_true, true_or, or_self, or_false, false_or]; rfl))
  by_cases c_8_10 : v = 10
  · skip
    have e_8 : v.toInt = 10 := by rw [c_8_10]; rfl
    refine lv_tableIn (tgt := 149) hx hb dX6_account_8 (by rw [e_8]; decide) (by rw [e_8]; decide) (by rw [e_8]; rfl) (by decide) ?_
    refine lv_iconst (v := 0) hx hb dX6_account_149 (by decide) ?_
    refine lv_istore_n (lv' := [(3, .int 0), (2, .int 0), (0, .ref q), (1, .int v)]) hx hb dX6_account_150 rfl hl (by decide) rfl (fun ls hl => ?_)
    have lp_151 : ∀ (D k : Nat), ((md 0 5).toNatClampNeg) - k < D → k ≤ (md 0 5).toNatClampNeg → ∀ (ls : Array Slot) (H : Heap) (locs : List Loc), hR g (putD g M q (up2 md 7 19 0)) H → va_S (gA g) s.heap H locs → lv_has ls 4 [(3, .int (nI k)), (2, .int (itr (clM (md 0)) 0 k)), (0, .ref q), (1, .int v)] → W p l e (rmOf 6 0 0) s m [.ref q, .int v].toArray below meth c H locs 0 0 (vx_MQ below (KQ g (.inl (some (.int (acM md v)), (putD g M q (up2 md 7 19 (if v = 0 ∨ v = 1 ∨ v = 2 ∨ v = 3 ∨ v = 4 ∨ v = 5 ∨ v = 6 ∨ v = 7 ∨ v = 8 ∨ v = 9 ∨ v = 10 ∨ v = 11 ∨ v = 12 ∨ v = 13 ∨ v = 14 ∨ v = 15 ∨ v = 16 then 0 else 1)))))) (KX g (.inl (some (.int (acM md v)), (putD g M q (up2 md 7 19 (if v = 0 ∨ v = 1 ∨ v = 2 ∨ v = 3 ∨ v = 4 ∨ v = 5 ∨ v = 6 ∨ v = 7 ∨ v = 8 ∨ v = 9 ∨ v = 10 ∨ v = 11 ∨ v = 12 ∨ v = 13 ∨ v = 14 ∨ v = 15 ∨ v = 16 then 0 else 1)))))) [.ref q, .int v].toArray s 0 0 (gA g)) (F0 m 151 ls []) := by
      intro D
      induction D with
      | zero => intro k hD; exact absurd hD (Nat.not_lt_zero _)
      | succ D ih_151 =>
        intro k hD hk ls H locs hM hS hl
        refine lv_iload_n hx hb dX6_account_151 rfl (lv_at hl 0 rfl) ?_
        refine lv_aload_n hx hb dX6_account_152 rfl (lv_at hl 2 rfl) ?_
        refine gt_X6_9 hc dX6_account_153 hM hW.o rfl ?_
        refine lv_iconst (v := 5) hx hb dX6_account_156 (by decide) ?_
        refine k_ialdN hc hM (n := 81) (show (putD g M q (up2 md 7 19 0)) (q + 1) = some (.inl (gI g, 81, .inl (md 0))) from (hW.ar 0 (by decide) (by decide) rfl rfl)) (X := 5) rfl (by omega) (by decide) dX6_account_157 ?_
        refine lv_icmp_ge (tgt := 178) hx hb dX6_account_158 (by decide) (fun c_158 => ?_) (fun c_158 => ?_)
        · skip
          have c_158 : (md 0 5).toNatClampNeg ≤ k := (k_le (by have := k_clamp_lt (md 0 5); omega)).mp c_158
          have z_2 : (itr (clM (md 0)) 0 k) = (itr (clM (md 0)) 0 (md 0 5).toNatClampNeg) := (by rw [show k = (md 0 5).toNatClampNeg by omega])
          have hl := lv_chg (lv_sub hl [1, 0, 2, 3] rfl) z_2
          refine lv_iload_n hx hb dX6_account_178 rfl (lv_at hl 0 rfl) ?_
          exact k_iret hc hr dX6_account_179 hM hS (Nat.le_of_ble_eq_true rfl) (Nat.le_of_ble_eq_true rfl) (by first | (simp only [acM, eq_false c_8_0, eq_false c_8_1, eq_false c_8_2, eq_false c_8_3, eq_false c_8_4, eq_false c_8_5, eq_false c_8_6, eq_false c_8_7, eq_false c_8_8, eq_false c_8_9, eq_true c_8_10, eq_self, bM_l, bM_r, rsM_l, rsM_r, seV_l, seV_r, snE_l, snE_r, up1_at, up1_up1, up2_up2, not_false_eq_true, not_true_eq_false, and_true, true_and, and_false, false_and, and_self, ↓reduceIte, or_true, true_or, or_self, or_false, false_or]; done) | (simp only [acM, eq_false c_8_0, eq_false c_8_1, eq_false c_8_2, eq_false c_8_3, eq_false c_8_4, eq_false c_8_5, eq_false c_8_6, eq_false c_8_7, eq_false c_8_8, eq_false c_8_9, eq_true c_8_10, eq_self, bM_l, bM_r, rsM_l, rsM_r, seV_l, seV_r, snE_l, snE_r, up1_at, up1_up1, up2_up2, not_false_eq_true, not_true_eq_false, and_true, true_and, and_false, false_and, and_self, ↓reduceIte, or_true, true_or, or_self, or_false, false_or]; rfl))
        · skip
          have c_158 : ¬ (md 0 5).toNatClampNeg ≤ k := fun h => c_158 ((k_le (by have := k_clamp_lt (md 0 5); omega)).mpr h)
          have ok_158 := kC_ok (f := md 0) hI c_158
          refine lv_aload_n hx hb dX6_account_161 rfl (lv_at hl 2 rfl) ?_
          refine lv_iload_n hx hb dX6_account_162 rfl (lv_at hl 0 rfl) ?_
          refine k_V1 (v := .int (bI (lostM (md 0) (nI k)))) hc [.int (nI k)] cw_X6_135 rfl dX6_account_163 (c_X6_isLost l hlf g _ q (up2 md 7 19 0) (nI k) hW (by first | assumption | decide)) hW.o hM hS hl.1 rfl rfl ⟨Nat.le_of_ble_eq_true rfl, Nat.le_of_ble_eq_true rfl⟩ ⟨Nat.le_of_ble_eq_true rfl, Nat.le_of_ble_eq_true rfl⟩ (Nat.le_of_ble_eq_true rfl) (fun H locs hM hS => ?_)
          refine lv_if_eq (tgt := 172) hx hb dX6_account_166 (by decide) (fun c_166 => ?_) (fun c_166 => ?_)
          · skip
            have c_166 := bI_eq.mp c_166
            refine lv_iinc (v := (nI (k + 1))) (lv' := [(3, .int (nI (k + 1))), (2, .int (itr (clM (md 0)) 0 k)), (0, .ref q), (1, .int v)]) hx hb dX6_account_172 hl (k := 0) rfl (k_inc1 _) (by decide) rfl (fun ls hl => ?_)
            refine lv_goto (tgt := 151) hx hb dX6_account_175 (by decide) ?_
            have z_2 : (itr (clM (md 0)) 0 k) = (itr (clM (md 0)) 0 (k + 1)) := (by rw [itr_s]; simp only [clM, eq_false c_8_0, eq_false c_8_1, eq_false c_8_2, eq_false c_8_3, eq_false c_8_4, eq_false c_8_5, eq_false c_8_6, eq_false c_8_7, eq_false c_8_8, eq_false c_8_9, eq_true c_8_10, eq_false c_158, eq_false c_166, not_false_eq_true, not_true_eq_false, and_true, true_and, and_false, false_and, and_self, ↓reduceIte, or_true, true_or, or_self, or_false, false_or])
            have hl := lv_chg (lv_sub hl [1, 0, 2, 3] rfl) z_2
            exact ih_151 (k + 1) (by omega) (by omega) ls _ _ hM hS (lv_sub hl [1, 0, 2, 3] rfl)
          · skip
            have c_166 := bI_ne.mp c_166
            refine lv_iinc (v := ((itr (clM (md 0)) 0 k) + 1)) (lv' := [(2, .int ((itr (clM (md 0)) 0 k) + 1)), (3, .int (nI k)), (0, .ref q), (1, .int v)]) hx hb dX6_account_169 hl (k := 1) rfl rfl (by decide) rfl (fun ls hl => ?_)
            refine lv_iinc (v := (nI (k + 1))) (lv' := [(3, .int (nI (k + 1))), (2, .int ((itr (clM (md 0)) 0 k) + 1)), (0, .ref q), (1, .int v)]) hx hb dX6_account_172 hl (k := 1) rfl (k_inc1 _) (by decide) rfl (fun ls hl => ?_)
            refine lv_goto (tgt := 151) hx hb dX6_account_175 (by decide) ?_
            have z_2 : ((itr (clM (md 0)) 0 k) + 1) = (itr (clM (md 0)) 0 (k + 1)) := (by rw [itr_s]; simp only [clM, eq_false c_8_0, eq_false c_8_1, eq_false c_8_2, eq_false c_8_3, eq_false c_8_4, eq_false c_8_5, eq_false c_8_6, eq_false c_8_7, eq_false c_8_8, eq_false c_8_9, eq_true c_8_10, eq_false c_158, eq_true c_166, not_false_eq_true, not_true_eq_false, and_true, true_and, and_false, false_and, and_self, ↓reduceIte, or_true, true_or, or_self, or_false, false_or])
            have hl := lv_chg (lv_sub hl [1, 0, 2, 3] rfl) z_2
            exact ih_151 (k + 1) (by omega) (by omega) ls _ _ hM hS (lv_sub hl [1, 0, 2, 3] rfl)
    have z_3 : 0 = (nI 0) := rfl
    have hl := lv_chg (lv_sub hl [0, 1, 2, 3] rfl) z_3
    have z_2 : 0 = (itr (clM (md 0)) 0 0) := rfl
    have hl := lv_chg (lv_sub hl [1, 0, 2, 3] rfl) z_2
    exact lp_151 ((md 0 5).toNatClampNeg + 1) 0 (by omega) (by omega) ls _ _ hM hS (lv_sub hl [1, 0, 2, 3] rfl)
  by_cases c_8_11 : v = 11
  · skip
    have e_8 : v.toInt = 11 := by rw [c_8_11]; rfl
    refine lv_tableIn (tgt := 180) hx hb dX6_account_8 (by rw [e_8]; decide) (by rw [e_8]; decide) (by rw [e_8]; rfl) (by decide) ?_
    refine lv_aload_n hx hb dX6_account_180 rfl (lv_at hl 1 rfl) ?_
    refine gt_X6_9 hc dX6_account_181 hM hW.o rfl ?_
    refine lv_bipush (v := 6) hx hb dX6_account_184 (by decide) ?_
    refine k_ialdN hc hM (n := 81) (show (putD g M q (up2 md 7 19 0)) (q + 1) = some (.inl (gI g, 81, .inl (md 0))) from (hW.ar 0 (by decide) (by decide) rfl rfl)) (X := 6) rfl (by omega) (by decide) dX6_account_186 ?_
    exact k_iret hc hr dX6_account_187 hM hS (Nat.le_of_ble_eq_true rfl) (Nat.le_of_ble_eq_true rfl) (by first | (simp only [acM, eq_false c_8_0, eq_false c_8_1, eq_false c_8_2, eq_false c_8_3, eq_false c_8_4, eq_false c_8_5, eq_false c_8_6, eq_false c_8_7, eq_false c_8_8, eq_false c_8_9, eq_false c_8_10, eq_true c_8_11, eq_self, bM_l, bM_r, rsM_l, rsM_r, seV_l, seV_r, snE_l, snE_r, up1_at, up1_up1, up2_up2, not_false_eq_true, not_true_eq_false, and_true, true_and, and_false, false_and, and_self, ↓reduceIte, or_true, true_or, or_self, or_false, false_or]; done) | (simp only [acM, eq_false c_8_0, eq_false c_8_1, eq_false c_8_2, eq_false c_8_3, eq_false c_8_4, eq_false c_8_5, eq_false c_8_6, eq_false c_8_7, eq_false c_8_8, eq_false c_8_9, eq_false c_8_10, eq_true c_8_11, eq_self, bM_l, bM_r, rsM_l, rsM_r, seV_l, seV_r, snE_l, snE_r, up1_at, up1_up1, up2_up2, not_false_eq_true, not_true_eq_false, and_true, true_and, and_false, false_and, and_self, ↓reduceIte, or_true, true_or, or_self, or_false, false_or]; rfl))
  by_cases c_8_12 : v = 12
  · skip
    have e_8 : v.toInt = 12 := by rw [c_8_12]; rfl
    refine lv_tableIn (tgt := 188) hx hb dX6_account_8 (by rw [e_8]; decide) (by rw [e_8]; decide) (by rw [e_8]; rfl) (by decide) ?_
    refine lv_aload_n hx hb dX6_account_188 rfl (lv_at hl 1 rfl) ?_
    refine gt_X6_9 hc dX6_account_189 hM hW.o rfl ?_
    refine lv_bipush (v := 7) hx hb dX6_account_192 (by decide) ?_
    refine k_ialdN hc hM (n := 81) (show (putD g M q (up2 md 7 19 0)) (q + 1) = some (.inl (gI g, 81, .inl (md 0))) from (hW.ar 0 (by decide) (by decide) rfl rfl)) (X := 7) rfl (by omega) (by decide) dX6_account_194 ?_
    exact k_iret hc hr dX6_account_195 hM hS (Nat.le_of_ble_eq_true rfl) (Nat.le_of_ble_eq_true rfl) (by first | (simp only [acM, eq_false c_8_0, eq_false c_8_1, eq_false c_8_2, eq_false c_8_3, eq_false c_8_4, eq_false c_8_5, eq_false c_8_6, eq_false c_8_7, eq_false c_8_8, eq_false c_8_9, eq_false c_8_10, eq_false c_8_11, eq_true c_8_12, eq_self, bM_l, bM_r, rsM_l, rsM_r, seV_l, seV_r, snE_l, snE_r, up1_at, up1_up1, up2_up2, not_false_eq_true, not_true_eq_false, and_true, true_and, and_false, false_and, and_self, ↓reduceIte, or_true, true_or, or_self, or_false, false_or]; done) | (simp only [acM, eq_false c_8_0, eq_false c_8_1, eq_false c_8_2, eq_false c_8_3, eq_false c_8_4, eq_false c_8_5, eq_false c_8_6, eq_false c_8_7, eq_false c_8_8, eq_false c_8_9, eq_false c_8_10, eq_false c_8_11, eq_true c_8_12, eq_self, bM_l, bM_r, rsM_l, rsM_r, seV_l, seV_r, snE_l, snE_r, up1_at, up1_up1, up2_up2, not_false_eq_true, not_true_eq_false, and_true, true_and, and_false, false_and, and_self, ↓reduceIte, or_true, true_or, or_self, or_false, false_or]; rfl))
  by_cases c_8_13 : v = 13
  · skip
    have e_8 : v.toInt = 13 := by rw [c_8_13]; rfl
    refine lv_tableIn (tgt := 196) hx hb dX6_account_8 (by rw [e_8]; decide) (by rw [e_8]; decide) (by rw [e_8]; rfl) (by decide) ?_
    refine lv_bipush (v := 30) hx hb dX6_account_196 (by decide) ?_
    refine lv_aload_n hx hb dX6_account_198 rfl (lv_at hl 1 rfl) ?_
    refine lv_iconst (v := 0) hx hb dX6_account_199 (by decide) ?_
    refine k_V1 (v := .int (mHb (md 0) 0)) hc [.int 0] cw_X6_88 rfl dX6_account_200 (c_X6_heatBehind l hlf g _ q (up2 md 7 19 0) 0 hW) hW.o hM hS hl.1 rfl rfl ⟨Nat.le_of_ble_eq_true rfl, Nat.le_of_ble_eq_true rfl⟩ ⟨Nat.le_of_ble_eq_true rfl, Nat.le_of_ble_eq_true rfl⟩ (Nat.le_of_ble_eq_true rfl) (fun H locs hM hS => ?_)
    refine lv_isub hx hb dX6_account_203 ?_
    exact k_iret hc hr dX6_account_204 hM hS (Nat.le_of_ble_eq_true rfl) (Nat.le_of_ble_eq_true rfl) (by first | (simp only [acM, eq_false c_8_0, eq_false c_8_1, eq_false c_8_2, eq_false c_8_3, eq_false c_8_4, eq_false c_8_5, eq_false c_8_6, eq_false c_8_7, eq_false c_8_8, eq_false c_8_9, eq_false c_8_10, eq_false c_8_11, eq_false c_8_12, eq_true c_8_13, eq_self, bM_l, bM_r, rsM_l, rsM_r, seV_l, seV_r, snE_l, snE_r, up1_at, up1_up1, up2_up2, not_false_eq_true, not_true_eq_false, and_true, true_and, and_false, false_and, and_self, ↓reduceIte, or_true, true_or, or_self, or_false, false_or]; done) | (simp only [acM, eq_false c_8_0, eq_false c_8_1, eq_false c_8_2, eq_false c_8_3, eq_false c_8_4, eq_false c_8_5, eq_false c_8_6, eq_false c_8_7, eq_false c_8_8, eq_false c_8_9, eq_false c_8_10, eq_false c_8_11, eq_false c_8_12, eq_true c_8_13, eq_self, bM_l, bM_r, rsM_l, rsM_r, seV_l, seV_r, snE_l, snE_r, up1_at, up1_up1, up2_up2, not_false_eq_true, not_true_eq_false, and_true, true_and, and_false, false_and, and_self, ↓reduceIte, or_true, true_or, or_self, or_false, false_or]; rfl))
  by_cases c_8_14 : v = 14
  · skip
    have e_8 : v.toInt = 14 := by rw [c_8_14]; rfl
    refine lv_tableIn (tgt := 205) hx hb dX6_account_8 (by rw [e_8]; decide) (by rw [e_8]; decide) (by rw [e_8]; rfl) (by decide) ?_
    refine lv_aload_n hx hb dX6_account_205 rfl (lv_at hl 1 rfl) ?_
    refine gt_X6_9 hc dX6_account_206 hM hW.o rfl ?_
    refine lv_bipush (v := 8) hx hb dX6_account_209 (by decide) ?_
    refine k_ialdN hc hM (n := 81) (show (putD g M q (up2 md 7 19 0)) (q + 1) = some (.inl (gI g, 81, .inl (md 0))) from (hW.ar 0 (by decide) (by decide) rfl rfl)) (X := 8) rfl (by omega) (by decide) dX6_account_211 ?_
    exact k_iret hc hr dX6_account_212 hM hS (Nat.le_of_ble_eq_true rfl) (Nat.le_of_ble_eq_true rfl) (by first | (simp only [acM, eq_false c_8_0, eq_false c_8_1, eq_false c_8_2, eq_false c_8_3, eq_false c_8_4, eq_false c_8_5, eq_false c_8_6, eq_false c_8_7, eq_false c_8_8, eq_false c_8_9, eq_false c_8_10, eq_false c_8_11, eq_false c_8_12, eq_false c_8_13, eq_true c_8_14, eq_self, bM_l, bM_r, rsM_l, rsM_r, seV_l, seV_r, snE_l, snE_r, up1_at, up1_up1, up2_up2, not_false_eq_true, not_true_eq_false, and_true, true_and, and_false, false_and, and_self, ↓reduceIte, or_true, true_or, or_self, or_false, false_or]; done) | (simp only [acM, eq_false c_8_0, eq_false c_8_1, eq_false c_8_2, eq_false c_8_3, eq_false c_8_4, eq_false c_8_5, eq_false c_8_6, eq_false c_8_7, eq_false c_8_8, eq_false c_8_9, eq_false c_8_10, eq_false c_8_11, eq_false c_8_12, eq_false c_8_13, eq_true c_8_14, eq_self, bM_l, bM_r, rsM_l, rsM_r, seV_l, seV_r, snE_l, snE_r, up1_at, up1_up1, up2_up2, not_false_eq_true, not_true_eq_false, and_true, true_and, and_false, false_and, and_self, ↓reduceIte, or_true, true_or, or_self, or_false, false_or]; rfl))
  by_cases c_8_15 : v = 15
  · skip
    have e_8 : v.toInt = 15 := by rw [c_8_15]; rfl
    refine lv_tableIn (tgt := 213) hx hb dX6_account_8 (by rw [e_8]; decide) (by rw [e_8]; decide) (by rw [e_8]; rfl) (by decide) ?_
    refine lv_aload_n hx hb dX6_account_213 rfl (lv_at hl 1 rfl) ?_
    refine gt_X6_42 hc dX6_account_214 hM hW.o (v := .int (md 7 3)) rfl ?_
    exact k_iret hc hr dX6_account_217 hM hS (Nat.le_of_ble_eq_true rfl) (Nat.le_of_ble_eq_true rfl) (by first | (simp only [acM, eq_false c_8_0, eq_false c_8_1, eq_false c_8_2, eq_false c_8_3, eq_false c_8_4, eq_false c_8_5, eq_false c_8_6, eq_false c_8_7, eq_false c_8_8, eq_false c_8_9, eq_false c_8_10, eq_false c_8_11, eq_false c_8_12, eq_false c_8_13, eq_false c_8_14, eq_true c_8_15, eq_self, bM_l, bM_r, rsM_l, rsM_r, seV_l, seV_r, snE_l, snE_r, up1_at, up1_up1, up2_up2, not_false_eq_true, not_true_eq_false, and_true, true_and, and_false, false_and, and_self, ↓reduceIte, or_true, true_or, or_self, or_false, false_or]; done) | (simp only [acM, eq_false c_8_0, eq_false c_8_1, eq_false c_8_2, eq_false c_8_3, eq_false c_8_4, eq_false c_8_5, eq_false c_8_6, eq_false c_8_7, eq_false c_8_8, eq_false c_8_9, eq_false c_8_10, eq_false c_8_11, eq_false c_8_12, eq_false c_8_13, eq_false c_8_14, eq_true c_8_15, eq_self, bM_l, bM_r, rsM_l, rsM_r, seV_l, seV_r, snE_l, snE_r, up1_at, up1_up1, up2_up2, not_false_eq_true, not_true_eq_false, and_true, true_and, and_false, false_and, and_self, ↓reduceIte, or_true, true_or, or_self, or_false, false_or]; rfl))
  by_cases c_8_16 : v = 16
  · skip
    have e_8 : v.toInt = 16 := by rw [c_8_16]; rfl
    refine lv_tableIn (tgt := 218) hx hb dX6_account_8 (by rw [e_8]; decide) (by rw [e_8]; decide) (by rw [e_8]; rfl) (by decide) ?_
    refine lv_aload_n hx hb dX6_account_218 rfl (lv_at hl 1 rfl) ?_
    refine gt_X6_163 hc dX6_account_219 hM hW.o (v := .int (md 7 9)) rfl ?_
    exact k_iret hc hr dX6_account_222 hM hS (Nat.le_of_ble_eq_true rfl) (Nat.le_of_ble_eq_true rfl) (by first | (simp only [acM, eq_false c_8_0, eq_false c_8_1, eq_false c_8_2, eq_false c_8_3, eq_false c_8_4, eq_false c_8_5, eq_false c_8_6, eq_false c_8_7, eq_false c_8_8, eq_false c_8_9, eq_false c_8_10, eq_false c_8_11, eq_false c_8_12, eq_false c_8_13, eq_false c_8_14, eq_false c_8_15, eq_true c_8_16, eq_self, bM_l, bM_r, rsM_l, rsM_r, seV_l, seV_r, snE_l, snE_r, up1_at, up1_up1, up2_up2, not_false_eq_true, not_true_eq_false, and_true, true_and, and_false, false_and, and_self, ↓reduceIte, or_true, true_or, or_self, or_false, false_or]; done) | (simp only [acM, eq_false c_8_0, eq_false c_8_1, eq_false c_8_2, eq_false c_8_3, eq_false c_8_4, eq_false c_8_5, eq_false c_8_6, eq_false c_8_7, eq_false c_8_8, eq_false c_8_9, eq_false c_8_10, eq_false c_8_11, eq_false c_8_12, eq_false c_8_13, eq_false c_8_14, eq_false c_8_15, eq_true c_8_16, eq_self, bM_l, bM_r, rsM_l, rsM_r, seV_l, seV_r, snE_l, snE_r, up1_at, up1_up1, up2_up2, not_false_eq_true, not_true_eq_false, and_true, true_and, and_false, false_and, and_self, ↓reduceIte, or_true, true_or, or_self, or_false, false_or]; rfl))
  have t_8 : (v.toInt < 0 ∨ 16 < v.toInt) ∨ (¬ v.toInt < 0 ∧ ¬ 16 < v.toInt ∧ (#[(84 : Int), (91 : Int), (101 : Int), (107 : Int), (114 : Int), (114 : Int), (114 : Int), (123 : Int), (129 : Int), (136 : Int), (141 : Int), (172 : Int), (180 : Int), (188 : Int), (197 : Int), (205 : Int), (210 : Int)] : Array Int)[(v.toInt - 0).toNat]? = some 215) := by
    by_cases h1 : v.toInt < 0
    · exact Or.inl (Or.inl h1)
    by_cases h2 : 16 < v.toInt
    · exact Or.inl (Or.inr h2)
    exact Or.inr ⟨h1, h2, tab_df (n := 17) (exc := [0, 1, 2, 3, 4, 5, 6, 7, 8, 9, 10, 11, 12, 13, 14, 15, 16]) (by decide) h1 h2 (by decide) (exc_c (tab_ne c_8_0 (by decide) h1) (exc_c (tab_ne c_8_1 (by decide) h1) (exc_c (tab_ne c_8_2 (by decide) h1) (exc_c (tab_ne c_8_3 (by decide) h1) (exc_c (tab_ne c_8_4 (by decide) h1) (exc_c (tab_ne c_8_5 (by decide) h1) (exc_c (tab_ne c_8_6 (by decide) h1) (exc_c (tab_ne c_8_7 (by decide) h1) (exc_c (tab_ne c_8_8 (by decide) h1) (exc_c (tab_ne c_8_9 (by decide) h1) (exc_c (tab_ne c_8_10 (by decide) h1) (exc_c (tab_ne c_8_11 (by decide) h1) (exc_c (tab_ne c_8_12 (by decide) h1) (exc_c (tab_ne c_8_13 (by decide) h1) (exc_c (tab_ne c_8_14 (by decide) h1) (exc_c (tab_ne c_8_15 (by decide) h1) (exc_c (tab_ne c_8_16 (by decide) h1) exc_n)))))))))))))))))⟩
  refine k_tabDf (tgt := 223) hx hb dX6_account_8 t_8 (by decide) ?_
  refine lv_aload_n hx hb dX6_account_223 rfl (lv_at hl 1 rfl) ?_
  refine lv_iconst (v := 1) hx hb dX6_account_224 (by decide) ?_
  refine k_V1 (v := .int 0) hc [.int 1] cw_X6_61 rfl dX6_account_225 (c_X6_raises l hlf g _ q (up2 md 7 19 0) 1 hW) hW.o hM hS hl.1 rfl rfl ⟨Nat.le_of_ble_eq_true rfl, Nat.le_of_ble_eq_true rfl⟩ ⟨Nat.le_of_ble_eq_true rfl, Nat.le_of_ble_eq_true rfl⟩ (Nat.le_of_ble_eq_true rfl) (fun H locs hM hS => ?_)
  have hM := hR.eq hM putD_putD
  have hW := MdAt.put (g := g) (M := M) (m := q) (md := (up2 (up2 md 7 19 0) 7 19 1))
  exact k_iret hc hr dX6_account_228 hM hS (Nat.le_of_ble_eq_true rfl) (Nat.le_of_ble_eq_true rfl) (by first | (simp only [acM, eq_false c_8_0, eq_false c_8_1, eq_false c_8_2, eq_false c_8_3, eq_false c_8_4, eq_false c_8_5, eq_false c_8_6, eq_false c_8_7, eq_false c_8_8, eq_false c_8_9, eq_false c_8_10, eq_false c_8_11, eq_false c_8_12, eq_false c_8_13, eq_false c_8_14, eq_false c_8_15, eq_false c_8_16, eq_self, bM_l, bM_r, rsM_l, rsM_r, seV_l, seV_r, snE_l, snE_r, up1_at, up1_up1, up2_up2, not_false_eq_true, not_true_eq_false, and_true, true_and, and_false, false_and, and_self, ↓reduceIte, or_true, true_or, or_self, or_false, false_or]; done) | (simp only [acM, eq_false c_8_0, eq_false c_8_1, eq_false c_8_2, eq_false c_8_3, eq_false c_8_4, eq_false c_8_5, eq_false c_8_6, eq_false c_8_7, eq_false c_8_8, eq_false c_8_9, eq_false c_8_10, eq_false c_8_11, eq_false c_8_12, eq_false c_8_13, eq_false c_8_14, eq_false c_8_15, eq_false c_8_16, eq_self, bM_l, bM_r, rsM_l, rsM_r, seV_l, seV_r, snE_l, snE_r, up1_at, up1_up1, up2_up2, not_false_eq_true, not_true_eq_false, and_true, true_and, and_false, false_and, and_self, ↓reduceIte, or_true, true_or, or_self, or_false, false_or]; rfl))
set_option maxHeartbeats 4000000 in
set_option maxRecDepth 100000 in
theorem c_X6_undo (l : Launch) (hlf : l.stackTraces = false) (g : GC) (M : HM) (q : Nat) (md : FL) (hW : MdAt g M q md) (hu : unOk md) : KM g l yX6_undo cX6_undo 2 (some .int) 2 0 0 [.ref q] M (.inl (some (.int (if md 7 3 = 0 then 0 else md 7 3 - 1)), (putD g M q (if md 7 3 = 0 then up2 md 7 19 1 else unM md)))) := by
  refine k_meth hlf (by decide) (Nat.le_of_ble_eq_true rfl) fun p e s m below meth c ls hc hr hnx hM hS hl => ?_
  have hc : Cx g p l s m [.ref q].toArray meth c cX6_undo 2 RX6 := hc
  have hx := hc.1
  have hb := hc.2.1
  have hl : lv_has ls 2 [(0, .ref q)] := hl
  refine lv_aload_n hx hb dX6_undo_0 rfl (lv_at hl 0 rfl) ?_
  refine lv_iconst (v := 0) hx hb dX6_undo_1 (by decide) ?_
  refine pt_X6_36 hc dX6_undo_2 hM hS hW.o rfl rfl (Nat.le_of_ble_eq_true rfl) (fun H locs hM hS => ?_)
  have hM := hR.eq hM (putD_sc hW 19 (v := 0) md_s19)
  have hW := MdAt.put (g := g) (M := M) (m := q) (md := (up2 md 7 19 0))
  refine lv_aload_n hx hb dX6_undo_5 rfl (lv_at hl 0 rfl) ?_
  refine gt_X6_42 hc dX6_undo_6 hM hW.o (v := .int (md 7 3)) rfl ?_
  refine lv_if_ne (tgt := 18) hx hb dX6_undo_9 (by decide) (fun c_9 => ?_) (fun c_9 => ?_)
  · skip
    refine lv_aload_n hx hb dX6_undo_18 rfl (lv_at hl 0 rfl) ?_
    refine lv_dup hx hb dX6_undo_19 rfl ?_
    refine gt_X6_42 hc dX6_undo_20 hM hW.o (v := .int (md 7 3)) rfl ?_
    refine lv_iconst (v := 1) hx hb dX6_undo_23 (by decide) ?_
    refine lv_isub hx hb dX6_undo_24 ?_
    refine pt_X6_42 hc dX6_undo_25 hM hS hW.o rfl rfl (Nat.le_of_ble_eq_true rfl) (fun H locs hM hS => ?_)
    have hM := hR.eq hM (putD_sc hW 3 (v := ((md 7 3) - 1)) md_s3)
    have hM := hR.eq hM putD_putD
    have hW := MdAt.put (g := g) (M := M) (m := q) (md := (up2 (up2 md 7 19 0) 7 3 ((md 7 3) - 1)))
    refine lv_iconst (v := 0) hx hb dX6_undo_28 (by decide) ?_
    refine lv_istore_n (lv' := [(1, .int 0), (0, .ref q)]) hx hb dX6_undo_29 rfl hl (by decide) rfl (fun ls hl => ?_)
    obtain ⟨U, hU8, eU⟩ := unP hu c_9
    have lp_30 : ∀ (D k : Nat), 81 - k < D → k ≤ 81 → ∀ (ls : Array Slot) (H : Heap) (locs : List Loc), hR g (putD g M q (up1 (up2 (up2 md 7 19 0) 7 3 ((md 7 3) - 1)) 0 (cpy k (fun i => md 2 (81 * U + i)) (md 0)))) H → va_S (gA g) s.heap H locs → lv_has ls 2 [(1, .int (nI k)), (0, .ref q)] → W p l e (rmOf 2 0 0) s m [.ref q].toArray below meth c H locs 0 0 (vx_MQ below (KQ g (.inl (some (.int (if md 7 3 = 0 then 0 else md 7 3 - 1)), (putD g M q (if md 7 3 = 0 then up2 md 7 19 1 else unM md))))) (KX g (.inl (some (.int (if md 7 3 = 0 then 0 else md 7 3 - 1)), (putD g M q (if md 7 3 = 0 then up2 md 7 19 1 else unM md))))) [.ref q].toArray s 0 0 (gA g)) (F0 m 30 ls []) := by
      intro D
      induction D with
      | zero => intro k hD; exact absurd hD (Nat.not_lt_zero _)
      | succ D ih_30 =>
        intro k hD hk ls H locs hM hS hl
        have hW := MdAt.put (g := g) (M := M) (m := q) (md := (up1 (up2 (up2 md 7 19 0) 7 3 ((md 7 3) - 1)) 0 (cpy k (fun i => md 2 (81 * U + i)) (md 0))))
        refine lv_iload_n hx hb dX6_undo_30 rfl (lv_at hl 0 rfl) ?_
        refine lv_bipush (v := 81) hx hb dX6_undo_31 (by decide) ?_
        refine lv_icmp_ge (tgt := 62) hx hb dX6_undo_33 (by decide) (fun c_33 => ?_) (fun c_33 => ?_)
        · skip
          have c_33 := (k_leL (b := 81) rfl (by decide) (by omega)).mp c_33
          have hM : hR g (putD g M q (up1 (up2 (up2 md 7 19 0) 7 3 ((md 7 3) - 1)) 0 (fun i => md 2 (81 * U + i)))) _ := hR.extD hM (fun z hz i hi => by
            by_cases hj : z = 0
            · subst hj
              rw [up1_at, up1_at]
              have hi : i < 81 := hi
              exact if_pos (by omega)
            · rw [up1_ne hj, up1_ne hj]) rfl
          have hW := MdAt.put (g := g) (M := M) (m := q) (md := (up1 (up2 (up2 md 7 19 0) 7 3 ((md 7 3) - 1)) 0 (fun i => md 2 (81 * U + i))))
          refine lv_aload_n hx hb dX6_undo_62 rfl (lv_at hl 1 rfl) ?_
          refine gt_X6_42 hc dX6_undo_63 hM hW.o (v := .int ((md 7 3) - 1)) rfl ?_
          exact k_iret hc hr dX6_undo_66 hM hS (Nat.le_of_ble_eq_true rfl) (Nat.le_of_ble_eq_true rfl) (by rw [if_neg c_9, if_neg c_9, unM, show (md 7 3 - 1).toNatClampNeg = U from by rw [eU]; exact nI_clamp (by omega)])
        · skip
          have c_33 : ¬ 81 ≤ k := fun h => c_33 ((k_leL (b := 81) rfl (by decide) (by omega)).mpr h)
          refine lv_aload_n hx hb dX6_undo_36 rfl (lv_at hl 1 rfl) ?_
          refine gt_X6_9 hc dX6_undo_37 hM hW.o rfl ?_
          refine lv_iload_n hx hb dX6_undo_40 rfl (lv_at hl 0 rfl) ?_
          refine lv_aload_n hx hb dX6_undo_41 rfl (lv_at hl 1 rfl) ?_
          refine gt_X6_16 hc dX6_undo_42 hM hW.o rfl ?_
          refine lv_bipush (v := 81) hx hb dX6_undo_45 (by decide) ?_
          refine lv_aload_n hx hb dX6_undo_47 rfl (lv_at hl 1 rfl) ?_
          refine gt_X6_42 hc dX6_undo_48 hM hW.o (v := .int ((md 7 3) - 1)) rfl ?_
          refine lv_imul hx hb dX6_undo_51 ?_
          refine lv_iload_n hx hb dX6_undo_52 rfl (lv_at hl 0 rfl) ?_
          refine lv_iadd hx hb dX6_undo_53 ?_
          refine k_ialdN hc hM (n := 648) (show (putD g M q (up1 (up2 (up2 md 7 19 0) 7 3 ((md 7 3) - 1)) 0 (cpy k (fun i => md 2 (81 * U + i)) (md 0)))) (q + 3) = some (.inl (gI g, 648, .inl (md 2))) from (hW.ar 2 (by decide) (by decide) rfl rfl)) (X := (81 * U + k)) (by rw [show md 7 3 - 1 = nI U from eU]; exact nI_81) (by omega) (by decide) dX6_undo_54 ?_
          refine k_iastN hc hM hS (n := 81) (show (putD g M q (up1 (up2 (up2 md 7 19 0) 7 3 ((md 7 3) - 1)) 0 (cpy k (fun i => md 2 (81 * U + i)) (md 0)))) (q + 1) = some (.inl (gI g, 81, .inl (cpy k (fun i => md 2 (81 * U + i)) (md 0)))) from (hW.ar 0 (by decide) (by decide) rfl rfl)) (X := k) rfl (by omega) (by decide) dX6_undo_55 (fun H locs hM hS => ?_)
          have hM := hR.eq hM (putD_ar hW 0 (by decide) (by decide) rfl rfl)
          have hM := hR.eq hM putD_putD
          have hW := MdAt.put (g := g) (M := M) (m := q) (md := (up1 (up1 (up2 (up2 md 7 19 0) 7 3 ((md 7 3) - 1)) 0 (cpy k (fun i => md 2 (81 * U + i)) (md 0))) 0 (upd ((up1 (up2 (up2 md 7 19 0) 7 3 ((md 7 3) - 1)) 0 (cpy k (fun i => md 2 (81 * U + i)) (md 0))) 0) k ((md 2) (81 * U + k)))))
          refine lv_iinc (v := (nI (k + 1))) (lv' := [(1, .int (nI (k + 1))), (0, .ref q)]) hx hb dX6_undo_56 hl (k := 0) rfl (k_inc1 _) (by decide) rfl (fun ls hl => ?_)
          refine lv_goto (tgt := 30) hx hb dX6_undo_59 (by decide) ?_
          have hM : hR g (putD g M q (up1 (up2 (up2 md 7 19 0) 7 3 ((md 7 3) - 1)) 0 (cpy (k + 1) (fun i => md 2 (81 * U + i)) (md 0)))) _ := hR.eq hM (congrArg (putD g M q) (by rw [up1_up1]; first | exact congrArg (up1 _ _) cpy_s | (rw [up1_at]; exact congrArg (up1 _ _) cpy_s)))
          exact ih_30 (k + 1) (by omega) (by omega) ls _ _ hM hS (lv_sub hl [0, 1] rfl)
    have z_1 : 0 = (nI 0) := rfl
    have hl := lv_chg (lv_sub hl [0, 1] rfl) z_1
    have hM : hR g (putD g M q (up1 (up2 (up2 md 7 19 0) 7 3 ((md 7 3) - 1)) 0 (cpy 0 (fun i => md 2 (81 * U + i)) (md 0)))) _ := hR.eq hM (congrArg (putD g M q) (show (up2 (up2 md 7 19 0) 7 3 ((md 7 3) - 1)) = (up1 (up2 (up2 md 7 19 0) 7 3 ((md 7 3) - 1)) 0 (cpy 0 (fun i => md 2 (81 * U + i)) (md 0))) from by rw [cpy_0]; exact (up1_self (fl := (up2 (up2 md 7 19 0) 7 3 ((md 7 3) - 1))) (k := 0)).symm))
    exact lp_30 (81 + 1) 0 (by omega) (by omega) ls _ _ hM hS (lv_sub hl [0, 1] rfl)
  · skip
    refine lv_aload_n hx hb dX6_undo_12 rfl (lv_at hl 0 rfl) ?_
    refine lv_iconst (v := 1) hx hb dX6_undo_13 (by decide) ?_
    refine k_V1 (v := .int 0) hc [.int 1] cw_X6_61 rfl dX6_undo_14 (c_X6_raises l hlf g _ q (up2 md 7 19 0) 1 hW) hW.o hM hS hl.1 rfl rfl ⟨Nat.le_of_ble_eq_true rfl, Nat.le_of_ble_eq_true rfl⟩ ⟨Nat.le_of_ble_eq_true rfl, Nat.le_of_ble_eq_true rfl⟩ (Nat.le_of_ble_eq_true rfl) (fun H locs hM hS => ?_)
    have hM := hR.eq hM putD_putD
    have hW := MdAt.put (g := g) (M := M) (m := q) (md := (up2 (up2 md 7 19 0) 7 19 1))
    exact k_iret hc hr dX6_undo_17 hM hS (Nat.le_of_ble_eq_true rfl) (Nat.le_of_ble_eq_true rfl) (by first | (simp only [eq_true c_9, eq_self, bM_l, bM_r, rsM_l, rsM_r, seV_l, seV_r, snE_l, snE_r, up1_at, up1_up1, up2_up2, not_false_eq_true, not_true_eq_false, and_true, true_and, and_false, false_and, and_self, ↓reduceIte, or_true, true_or, or_self, or_false, false_or]; done) | (simp only [eq_true c_9, eq_self, bM_l, bM_r, rsM_l, rsM_r, seV_l, seV_r, snE_l, snE_r, up1_at, up1_up1, up2_up2, not_false_eq_true, not_true_eq_false, and_true, true_and, and_false, false_and, and_self, ↓reduceIte, or_true, true_or, or_self, or_false, false_or]; rfl))
set_option maxHeartbeats 4000000 in
set_option maxRecDepth 100000 in
theorem c_X6_save (l : Launch) (hlf : l.stackTraces = false) (g : GC) (M : HM) (q : Nat) (md : FL) (hW : MdAt g M q md) : KM g l yX6_save cX6_save 2 (some .int) 1 0 0 [.ref q] M (.inl (some (.int (md 0 0)), (putD g M q (up1 (up2 (up2 md 7 19 0) 7 5 1) 3 (md 0))))) := by
  refine k_meth hlf (by decide) (Nat.le_of_ble_eq_true rfl) fun p e s m below meth c ls hc hr hnx hM hS hl => ?_
  have hc : Cx g p l s m [.ref q].toArray meth c cX6_save 2 RX6 := hc
  have hx := hc.1
  have hb := hc.2.1
  have hl : lv_has ls 2 [(0, .ref q)] := hl
  refine lv_aload_n hx hb dX6_save_0 rfl (lv_at hl 0 rfl) ?_
  refine lv_iconst (v := 0) hx hb dX6_save_1 (by decide) ?_
  refine pt_X6_36 hc dX6_save_2 hM hS hW.o rfl rfl (Nat.le_of_ble_eq_true rfl) (fun H locs hM hS => ?_)
  have hM := hR.eq hM (putD_sc hW 19 (v := 0) md_s19)
  have hW := MdAt.put (g := g) (M := M) (m := q) (md := (up2 md 7 19 0))
  refine lv_aload_n hx hb dX6_save_5 rfl (lv_at hl 0 rfl) ?_
  refine lv_iconst (v := 1) hx hb dX6_save_6 (by decide) ?_
  refine pt_X6_208 hc dX6_save_7 hM hS hW.o (by first | rfl | exact bI_n) (by first | rfl | exact bI_fit) (Nat.le_of_ble_eq_true rfl) (fun H locs hM hS => ?_)
  have hM := hR.eq hM (putD_sc hW 5 (v := 1) md_s5)
  have hM := hR.eq hM putD_putD
  have hW := MdAt.put (g := g) (M := M) (m := q) (md := (up2 (up2 md 7 19 0) 7 5 1))
  refine lv_iconst (v := 0) hx hb dX6_save_10 (by decide) ?_
  refine lv_istore_n (lv' := [(1, .int 0), (0, .ref q)]) hx hb dX6_save_11 rfl hl (by decide) rfl (fun ls hl => ?_)
  have lp_12 : ∀ (D k : Nat), 81 - k < D → k ≤ 81 → ∀ (ls : Array Slot) (H : Heap) (locs : List Loc), hR g (putD g M q (up1 (up2 (up2 md 7 19 0) 7 5 1) 3 (cpy k (md 0) (md 3)))) H → va_S (gA g) s.heap H locs → lv_has ls 2 [(1, .int (nI k)), (0, .ref q)] → W p l e (rmOf 1 0 0) s m [.ref q].toArray below meth c H locs 0 0 (vx_MQ below (KQ g (.inl (some (.int (md 0 0)), (putD g M q (up1 (up2 (up2 md 7 19 0) 7 5 1) 3 (md 0)))))) (KX g (.inl (some (.int (md 0 0)), (putD g M q (up1 (up2 (up2 md 7 19 0) 7 5 1) 3 (md 0)))))) [.ref q].toArray s 0 0 (gA g)) (F0 m 12 ls []) := by
    intro D
    induction D with
    | zero => intro k hD; exact absurd hD (Nat.not_lt_zero _)
    | succ D ih_12 =>
      intro k hD hk ls H locs hM hS hl
      have hW := MdAt.put (g := g) (M := M) (m := q) (md := (up1 (up2 (up2 md 7 19 0) 7 5 1) 3 (cpy k (md 0) (md 3))))
      refine lv_iload_n hx hb dX6_save_12 rfl (lv_at hl 0 rfl) ?_
      refine lv_bipush (v := 81) hx hb dX6_save_13 (by decide) ?_
      refine lv_icmp_ge (tgt := 36) hx hb dX6_save_15 (by decide) (fun c_15 => ?_) (fun c_15 => ?_)
      · skip
        have c_15 := (k_leL (b := 81) rfl (by decide) (by omega)).mp c_15
        have hM : hR g (putD g M q (up1 (up2 (up2 md 7 19 0) 7 5 1) 3 (md 0))) _ := hR.extD hM (fun z hz i hi => by
          by_cases hj : z = 3
          · subst hj
            rw [up1_at, up1_at]
            have hi : i < 81 := hi
            exact if_pos (by omega)
          · rw [up1_ne hj, up1_ne hj]) rfl
        have hW := MdAt.put (g := g) (M := M) (m := q) (md := (up1 (up2 (up2 md 7 19 0) 7 5 1) 3 (md 0)))
        refine lv_aload_n hx hb dX6_save_36 rfl (lv_at hl 1 rfl) ?_
        refine gt_X6_9 hc dX6_save_37 hM hW.o rfl ?_
        refine lv_iconst (v := 0) hx hb dX6_save_40 (by decide) ?_
        refine k_ialdN hc hM (n := 81) (show (putD g M q (up1 (up2 (up2 md 7 19 0) 7 5 1) 3 (md 0))) (q + 1) = some (.inl (gI g, 81, .inl (md 0))) from (hW.ar 0 (by decide) (by decide) rfl rfl)) (X := 0) rfl (by omega) (by decide) dX6_save_41 ?_
        exact k_iret hc hr dX6_save_42 hM hS (Nat.le_of_ble_eq_true rfl) (Nat.le_of_ble_eq_true rfl) (by rfl)
      · skip
        have c_15 : ¬ 81 ≤ k := fun h => c_15 ((k_leL (b := 81) rfl (by decide) (by omega)).mpr h)
        refine lv_aload_n hx hb dX6_save_18 rfl (lv_at hl 1 rfl) ?_
        refine gt_X6_19 hc dX6_save_19 hM hW.o rfl ?_
        refine lv_iload_n hx hb dX6_save_22 rfl (lv_at hl 0 rfl) ?_
        refine lv_aload_n hx hb dX6_save_23 rfl (lv_at hl 1 rfl) ?_
        refine gt_X6_9 hc dX6_save_24 hM hW.o rfl ?_
        refine lv_iload_n hx hb dX6_save_27 rfl (lv_at hl 0 rfl) ?_
        refine k_ialdN hc hM (n := 81) (show (putD g M q (up1 (up2 (up2 md 7 19 0) 7 5 1) 3 (cpy k (md 0) (md 3)))) (q + 1) = some (.inl (gI g, 81, .inl (md 0))) from (hW.ar 0 (by decide) (by decide) rfl rfl)) (X := k) rfl (by omega) (by decide) dX6_save_28 ?_
        refine k_iastN hc hM hS (n := 81) (show (putD g M q (up1 (up2 (up2 md 7 19 0) 7 5 1) 3 (cpy k (md 0) (md 3)))) (q + 4) = some (.inl (gI g, 81, .inl (cpy k (md 0) (md 3)))) from (hW.ar 3 (by decide) (by decide) rfl rfl)) (X := k) rfl (by omega) (by decide) dX6_save_29 (fun H locs hM hS => ?_)
        have hM := hR.eq hM (putD_ar hW 3 (by decide) (by decide) rfl rfl)
        have hM := hR.eq hM putD_putD
        have hW := MdAt.put (g := g) (M := M) (m := q) (md := (up1 (up1 (up2 (up2 md 7 19 0) 7 5 1) 3 (cpy k (md 0) (md 3))) 3 (upd ((up1 (up2 (up2 md 7 19 0) 7 5 1) 3 (cpy k (md 0) (md 3))) 3) k ((md 0) k))))
        refine lv_iinc (v := (nI (k + 1))) (lv' := [(1, .int (nI (k + 1))), (0, .ref q)]) hx hb dX6_save_30 hl (k := 0) rfl (k_inc1 _) (by decide) rfl (fun ls hl => ?_)
        refine lv_goto (tgt := 12) hx hb dX6_save_33 (by decide) ?_
        have hM : hR g (putD g M q (up1 (up2 (up2 md 7 19 0) 7 5 1) 3 (cpy (k + 1) (md 0) (md 3)))) _ := hR.eq hM (congrArg (putD g M q) (by rw [up1_up1]; first | exact congrArg (up1 _ _) cpy_s | (rw [up1_at]; exact congrArg (up1 _ _) cpy_s)))
        exact ih_12 (k + 1) (by omega) (by omega) ls _ _ hM hS (lv_sub hl [0, 1] rfl)
  have z_1 : 0 = (nI 0) := rfl
  have hl := lv_chg (lv_sub hl [0, 1] rfl) z_1
  have hM : hR g (putD g M q (up1 (up2 (up2 md 7 19 0) 7 5 1) 3 (cpy 0 (md 0) (md 3)))) _ := hR.eq hM (congrArg (putD g M q) (show (up2 (up2 md 7 19 0) 7 5 1) = (up1 (up2 (up2 md 7 19 0) 7 5 1) 3 (cpy 0 (md 0) (md 3))) from by rw [cpy_0]; exact (up1_self (fl := (up2 (up2 md 7 19 0) 7 5 1)) (k := 3)).symm))
  exact lp_12 (81 + 1) 0 (by omega) (by omega) ls _ _ hM hS (lv_sub hl [0, 1] rfl)
set_option maxHeartbeats 4000000 in
set_option maxRecDepth 100000 in
theorem c_X6_restore (l : Launch) (hlf : l.stackTraces = false) (g : GC) (M : HM) (q : Nat) (md : FL) (hW : MdAt g M q md) : KM g l yX6_restore cX6_restore 2 (some .int) 2 0 0 [.ref q] M (.inl (some (.int (if md 7 5 = 0 then 0 else md 3 0)), (putD g M q (if md 7 5 = 0 then up2 md 7 19 1 else up2 (up1 (up2 md 7 19 0) 0 (md 3)) 7 3 0)))) := by
  refine k_meth hlf (by decide) (Nat.le_of_ble_eq_true rfl) fun p e s m below meth c ls hc hr hnx hM hS hl => ?_
  have hc : Cx g p l s m [.ref q].toArray meth c cX6_restore 2 RX6 := hc
  have hx := hc.1
  have hb := hc.2.1
  have hl : lv_has ls 2 [(0, .ref q)] := hl
  refine lv_aload_n hx hb dX6_restore_0 rfl (lv_at hl 0 rfl) ?_
  refine lv_iconst (v := 0) hx hb dX6_restore_1 (by decide) ?_
  refine pt_X6_36 hc dX6_restore_2 hM hS hW.o rfl rfl (Nat.le_of_ble_eq_true rfl) (fun H locs hM hS => ?_)
  have hM := hR.eq hM (putD_sc hW 19 (v := 0) md_s19)
  have hW := MdAt.put (g := g) (M := M) (m := q) (md := (up2 md 7 19 0))
  refine lv_aload_n hx hb dX6_restore_5 rfl (lv_at hl 0 rfl) ?_
  refine gt_X6_208 hc dX6_restore_6 hM hW.o (v := .int (md 7 5)) rfl ?_
  refine lv_if_ne (tgt := 18) hx hb dX6_restore_9 (by decide) (fun c_9 => ?_) (fun c_9 => ?_)
  · skip
    refine lv_iconst (v := 0) hx hb dX6_restore_18 (by decide) ?_
    refine lv_istore_n (lv' := [(1, .int 0), (0, .ref q)]) hx hb dX6_restore_19 rfl hl (by decide) rfl (fun ls hl => ?_)
    have lp_20 : ∀ (D k : Nat), 81 - k < D → k ≤ 81 → ∀ (ls : Array Slot) (H : Heap) (locs : List Loc), hR g (putD g M q (up1 (up2 md 7 19 0) 0 (cpy k (md 3) (md 0)))) H → va_S (gA g) s.heap H locs → lv_has ls 2 [(1, .int (nI k)), (0, .ref q)] → W p l e (rmOf 2 0 0) s m [.ref q].toArray below meth c H locs 0 0 (vx_MQ below (KQ g (.inl (some (.int (if md 7 5 = 0 then 0 else md 3 0)), (putD g M q (if md 7 5 = 0 then up2 md 7 19 1 else up2 (up1 (up2 md 7 19 0) 0 (md 3)) 7 3 0))))) (KX g (.inl (some (.int (if md 7 5 = 0 then 0 else md 3 0)), (putD g M q (if md 7 5 = 0 then up2 md 7 19 1 else up2 (up1 (up2 md 7 19 0) 0 (md 3)) 7 3 0))))) [.ref q].toArray s 0 0 (gA g)) (F0 m 20 ls []) := by
      intro D
      induction D with
      | zero => intro k hD; exact absurd hD (Nat.not_lt_zero _)
      | succ D ih_20 =>
        intro k hD hk ls H locs hM hS hl
        have hW := MdAt.put (g := g) (M := M) (m := q) (md := (up1 (up2 md 7 19 0) 0 (cpy k (md 3) (md 0))))
        refine lv_iload_n hx hb dX6_restore_20 rfl (lv_at hl 0 rfl) ?_
        refine lv_bipush (v := 81) hx hb dX6_restore_21 (by decide) ?_
        refine lv_icmp_ge (tgt := 44) hx hb dX6_restore_23 (by decide) (fun c_23 => ?_) (fun c_23 => ?_)
        · skip
          have c_23 := (k_leL (b := 81) rfl (by decide) (by omega)).mp c_23
          have hM : hR g (putD g M q (up1 (up2 md 7 19 0) 0 (md 3))) _ := hR.extD hM (fun z hz i hi => by
            by_cases hj : z = 0
            · subst hj
              rw [up1_at, up1_at]
              have hi : i < 81 := hi
              exact if_pos (by omega)
            · rw [up1_ne hj, up1_ne hj]) rfl
          have hW := MdAt.put (g := g) (M := M) (m := q) (md := (up1 (up2 md 7 19 0) 0 (md 3)))
          refine lv_aload_n hx hb dX6_restore_44 rfl (lv_at hl 1 rfl) ?_
          refine lv_iconst (v := 0) hx hb dX6_restore_45 (by decide) ?_
          refine pt_X6_42 hc dX6_restore_46 hM hS hW.o rfl rfl (Nat.le_of_ble_eq_true rfl) (fun H locs hM hS => ?_)
          have hM := hR.eq hM (putD_sc hW 3 (v := 0) md_s3)
          have hM := hR.eq hM putD_putD
          have hW := MdAt.put (g := g) (M := M) (m := q) (md := (up2 (up1 (up2 md 7 19 0) 0 (md 3)) 7 3 0))
          refine lv_aload_n hx hb dX6_restore_49 rfl (lv_at hl 1 rfl) ?_
          refine gt_X6_9 hc dX6_restore_50 hM hW.o rfl ?_
          refine lv_iconst (v := 0) hx hb dX6_restore_53 (by decide) ?_
          refine k_ialdN hc hM (n := 81) (show (putD g M q (up2 (up1 (up2 md 7 19 0) 0 (md 3)) 7 3 0)) (q + 1) = some (.inl (gI g, 81, .inl (md 3))) from (hW.ar 0 (by decide) (by decide) rfl rfl)) (X := 0) rfl (by omega) (by decide) dX6_restore_54 ?_
          exact k_iret hc hr dX6_restore_55 hM hS (Nat.le_of_ble_eq_true rfl) (Nat.le_of_ble_eq_true rfl) (by rw [if_neg c_9, if_neg c_9]; try rfl)
        · skip
          have c_23 : ¬ 81 ≤ k := fun h => c_23 ((k_leL (b := 81) rfl (by decide) (by omega)).mpr h)
          refine lv_aload_n hx hb dX6_restore_26 rfl (lv_at hl 1 rfl) ?_
          refine gt_X6_9 hc dX6_restore_27 hM hW.o rfl ?_
          refine lv_iload_n hx hb dX6_restore_30 rfl (lv_at hl 0 rfl) ?_
          refine lv_aload_n hx hb dX6_restore_31 rfl (lv_at hl 1 rfl) ?_
          refine gt_X6_19 hc dX6_restore_32 hM hW.o rfl ?_
          refine lv_iload_n hx hb dX6_restore_35 rfl (lv_at hl 0 rfl) ?_
          refine k_ialdN hc hM (n := 81) (show (putD g M q (up1 (up2 md 7 19 0) 0 (cpy k (md 3) (md 0)))) (q + 4) = some (.inl (gI g, 81, .inl (md 3))) from (hW.ar 3 (by decide) (by decide) rfl rfl)) (X := k) rfl (by omega) (by decide) dX6_restore_36 ?_
          refine k_iastN hc hM hS (n := 81) (show (putD g M q (up1 (up2 md 7 19 0) 0 (cpy k (md 3) (md 0)))) (q + 1) = some (.inl (gI g, 81, .inl (cpy k (md 3) (md 0)))) from (hW.ar 0 (by decide) (by decide) rfl rfl)) (X := k) rfl (by omega) (by decide) dX6_restore_37 (fun H locs hM hS => ?_)
          have hM := hR.eq hM (putD_ar hW 0 (by decide) (by decide) rfl rfl)
          have hM := hR.eq hM putD_putD
          have hW := MdAt.put (g := g) (M := M) (m := q) (md := (up1 (up1 (up2 md 7 19 0) 0 (cpy k (md 3) (md 0))) 0 (upd ((up1 (up2 md 7 19 0) 0 (cpy k (md 3) (md 0))) 0) k ((md 3) k))))
          refine lv_iinc (v := (nI (k + 1))) (lv' := [(1, .int (nI (k + 1))), (0, .ref q)]) hx hb dX6_restore_38 hl (k := 0) rfl (k_inc1 _) (by decide) rfl (fun ls hl => ?_)
          refine lv_goto (tgt := 20) hx hb dX6_restore_41 (by decide) ?_
          have hM : hR g (putD g M q (up1 (up2 md 7 19 0) 0 (cpy (k + 1) (md 3) (md 0)))) _ := hR.eq hM (congrArg (putD g M q) (by rw [up1_up1]; first | exact congrArg (up1 _ _) cpy_s | (rw [up1_at]; exact congrArg (up1 _ _) cpy_s)))
          exact ih_20 (k + 1) (by omega) (by omega) ls _ _ hM hS (lv_sub hl [0, 1] rfl)
    have z_1 : 0 = (nI 0) := rfl
    have hl := lv_chg (lv_sub hl [0, 1] rfl) z_1
    have hM : hR g (putD g M q (up1 (up2 md 7 19 0) 0 (cpy 0 (md 3) (md 0)))) _ := hR.eq hM (congrArg (putD g M q) (show (up2 md 7 19 0) = (up1 (up2 md 7 19 0) 0 (cpy 0 (md 3) (md 0))) from by rw [cpy_0]; exact (up1_self (fl := (up2 md 7 19 0)) (k := 0)).symm))
    exact lp_20 (81 + 1) 0 (by omega) (by omega) ls _ _ hM hS (lv_sub hl [0, 1] rfl)
  · skip
    refine lv_aload_n hx hb dX6_restore_12 rfl (lv_at hl 0 rfl) ?_
    refine lv_iconst (v := 1) hx hb dX6_restore_13 (by decide) ?_
    refine k_V1 (v := .int 0) hc [.int 1] cw_X6_61 rfl dX6_restore_14 (c_X6_raises l hlf g _ q (up2 md 7 19 0) 1 hW) hW.o hM hS hl.1 rfl rfl ⟨Nat.le_of_ble_eq_true rfl, Nat.le_of_ble_eq_true rfl⟩ ⟨Nat.le_of_ble_eq_true rfl, Nat.le_of_ble_eq_true rfl⟩ (Nat.le_of_ble_eq_true rfl) (fun H locs hM hS => ?_)
    have hM := hR.eq hM putD_putD
    have hW := MdAt.put (g := g) (M := M) (m := q) (md := (up2 (up2 md 7 19 0) 7 19 1))
    exact k_iret hc hr dX6_restore_17 hM hS (Nat.le_of_ble_eq_true rfl) (Nat.le_of_ble_eq_true rfl) (by first | (simp only [eq_true c_9, eq_self, bM_l, bM_r, rsM_l, rsM_r, seV_l, seV_r, snE_l, snE_r, up1_at, up1_up1, up2_up2, not_false_eq_true, not_true_eq_false, and_true, true_and, and_false, false_and, and_self, ↓reduceIte, or_true, true_or, or_self, or_false, false_or]; done) | (simp only [eq_true c_9, eq_self, bM_l, bM_r, rsM_l, rsM_r, seV_l, seV_r, snE_l, snE_r, up1_at, up1_up1, up2_up2, not_false_eq_true, not_true_eq_false, and_true, true_and, and_false, false_and, and_self, ↓reduceIte, or_true, true_or, or_self, or_false, false_or]; rfl))
set_option maxHeartbeats 4000000 in
set_option maxRecDepth 100000 in
theorem c_X6_append (l : Launch) (hlf : l.stackTraces = false) (g : GC) (M : HM) (q : Nat) (md : FL) (v : Int32) (hW : MdAt g M q md) (hT : tOk md) (hv : chOk v) : KM g l yX6_append cX6_append 2 (some .int) 2 0 0 [.ref q, .int v] M (.inl (some (.int (if md 7 9 = 60 then 0 else md 7 9 + 1)), (putD g M q (if md 7 9 = 60 then up2 md 7 19 1 else apM md v)))) := by
  refine k_meth hlf (by decide) (Nat.le_of_ble_eq_true rfl) fun p e s m below meth c ls hc hr hnx hM hS hl => ?_
  have hc : Cx g p l s m [.ref q, .int v].toArray meth c cX6_append 2 RX6 := hc
  have hx := hc.1
  have hb := hc.2.1
  have hl : lv_has ls 2 [(0, .ref q), (1, .int v)] := hl
  refine lv_aload_n hx hb dX6_append_0 rfl (lv_at hl 0 rfl) ?_
  refine lv_iconst (v := 0) hx hb dX6_append_1 (by decide) ?_
  refine pt_X6_36 hc dX6_append_2 hM hS hW.o rfl rfl (Nat.le_of_ble_eq_true rfl) (fun H locs hM hS => ?_)
  have hM := hR.eq hM (putD_sc hW 19 (v := 0) md_s19)
  have hW := MdAt.put (g := g) (M := M) (m := q) (md := (up2 md 7 19 0))
  refine lv_aload_n hx hb dX6_append_5 rfl (lv_at hl 0 rfl) ?_
  refine gt_X6_163 hc dX6_append_6 hM hW.o (v := .int (md 7 9)) rfl ?_
  refine lv_bipush (v := 60) hx hb dX6_append_9 (by decide) ?_
  refine lv_icmp_ne (tgt := 20) hx hb dX6_append_11 (by decide) (fun c_11 => ?_) (fun c_11 => ?_)
  · skip
    refine lv_aload_n hx hb dX6_append_20 rfl (lv_at hl 0 rfl) ?_
    refine gt_X6_25 hc dX6_append_21 hM hW.o rfl ?_
    refine lv_aload_n hx hb dX6_append_24 rfl (lv_at hl 0 rfl) ?_
    refine lv_dup hx hb dX6_append_25 rfl ?_
    refine gt_X6_163 hc dX6_append_26 hM hW.o (v := .int (md 7 9)) rfl ?_
    refine lv_dup_x1 hx hb dX6_append_29 rfl rfl ?_
    refine lv_iconst (v := 1) hx hb dX6_append_30 (by decide) ?_
    refine lv_iadd hx hb dX6_append_31 ?_
    refine pt_X6_163 hc dX6_append_32 hM hS hW.o rfl rfl (Nat.le_of_ble_eq_true rfl) (fun H locs hM hS => ?_)
    have hM := hR.eq hM (putD_sc hW 9 (v := ((md 7 9) + 1)) md_s9)
    have hM := hR.eq hM putD_putD
    have hW := MdAt.put (g := g) (M := M) (m := q) (md := (up2 (up2 md 7 19 0) 7 9 ((md 7 9) + 1)))
    refine lv_iload_n hx hb dX6_append_35 rfl (lv_at hl 1 rfl) ?_
    refine k_cast hc hM hS (show (putD g M q (up2 (up2 md 7 19 0) 7 9 ((md 7 9) + 1))) (q + 6) = some (.inl (gC g, 60, .inl (md 5))) from hW.tx) hv.v (tIn60 hT c_11) dX6_append_36 (fun H locs hM hS => ?_)
    have hM := hR.eq hM (putD_tx hW)
    have hM := hR.eq hM putD_putD
    have hW := MdAt.put (g := g) (M := M) (m := q) (md := (up1 (up2 (up2 md 7 19 0) 7 9 ((md 7 9) + 1)) 5 (upd ((up2 (up2 md 7 19 0) 7 9 ((md 7 9) + 1)) 5) ((md 7 9).toNatClampNeg) v)))
    refine lv_aload_n hx hb dX6_append_37 rfl (lv_at hl 0 rfl) ?_
    refine gt_X6_163 hc dX6_append_38 hM hW.o (v := .int ((md 7 9) + 1)) rfl ?_
    exact k_iret hc hr dX6_append_41 hM hS (Nat.le_of_ble_eq_true rfl) (Nat.le_of_ble_eq_true rfl) (by first | (simp only [apM, eq_false c_11, eq_self, bM_l, bM_r, rsM_l, rsM_r, seV_l, seV_r, snE_l, snE_r, up1_at, up1_up1, up2_up2, not_false_eq_true, not_true_eq_false, and_true, true_and, and_false, false_and, and_self, ↓reduceIte, or_true, true_or, or_self, or_false, false_or]; done) | (simp only [apM, eq_false c_11, eq_self, bM_l, bM_r, rsM_l, rsM_r, seV_l, seV_r, snE_l, snE_r, up1_at, up1_up1, up2_up2, not_false_eq_true, not_true_eq_false, and_true, true_and, and_false, false_and, and_self, ↓reduceIte, or_true, true_or, or_self, or_false, false_or]; rfl))
  · skip
    refine lv_aload_n hx hb dX6_append_14 rfl (lv_at hl 0 rfl) ?_
    refine lv_iconst (v := 1) hx hb dX6_append_15 (by decide) ?_
    refine k_V1 (v := .int 0) hc [.int 1] cw_X6_61 rfl dX6_append_16 (c_X6_raises l hlf g _ q (up2 md 7 19 0) 1 hW) hW.o hM hS hl.1 rfl rfl ⟨Nat.le_of_ble_eq_true rfl, Nat.le_of_ble_eq_true rfl⟩ ⟨Nat.le_of_ble_eq_true rfl, Nat.le_of_ble_eq_true rfl⟩ (Nat.le_of_ble_eq_true rfl) (fun H locs hM hS => ?_)
    have hM := hR.eq hM putD_putD
    have hW := MdAt.put (g := g) (M := M) (m := q) (md := (up2 (up2 md 7 19 0) 7 19 1))
    exact k_iret hc hr dX6_append_19 hM hS (Nat.le_of_ble_eq_true rfl) (Nat.le_of_ble_eq_true rfl) (by first | (simp only [apM, eq_true c_11, eq_self, bM_l, bM_r, rsM_l, rsM_r, seV_l, seV_r, snE_l, snE_r, up1_at, up1_up1, up2_up2, not_false_eq_true, not_true_eq_false, and_true, true_and, and_false, false_and, and_self, ↓reduceIte, or_true, true_or, or_self, or_false, false_or]; done) | (simp only [apM, eq_true c_11, eq_self, bM_l, bM_r, rsM_l, rsM_r, seV_l, seV_r, snE_l, snE_r, up1_at, up1_up1, up2_up2, not_false_eq_true, not_true_eq_false, and_true, true_and, and_false, false_and, and_self, ↓reduceIte, or_true, true_or, or_self, or_false, false_or]; rfl))
set_option maxHeartbeats 4000000 in
set_option maxRecDepth 100000 in
theorem c_X6_character (l : Launch) (hlf : l.stackTraces = false) (g : GC) (M : HM) (q : Nat) (md : FL) (v : Int32) (hW : MdAt g M q md) (hI : mOk (md 0)) (h1 : cOk (md 7 7) 100) : KM g l yX6_character cX6_character 2 (some .char) 2 0 0 [.ref q, .int v] M (.inl (some (.int (if inB v 0 (md 7 7 - 1) then c2I (md 4 (v).toNatClampNeg) else 97)), (putD g M q (up2 md 7 19 (if inB v 0 (md 7 7 - 1) then 0 else 1))))) := by
  refine k_meth hlf (by decide) (Nat.le_of_ble_eq_true rfl) fun p e s m below meth c ls hc hr hnx hM hS hl => ?_
  have hc : Cx g p l s m [.ref q, .int v].toArray meth c cX6_character 2 RX6 := hc
  have hx := hc.1
  have hb := hc.2.1
  have hl : lv_has ls 2 [(0, .ref q), (1, .int v)] := hl
  refine lv_aload_n hx hb dX6_character_0 rfl (lv_at hl 0 rfl) ?_
  refine lv_iload_n hx hb dX6_character_1 rfl (lv_at hl 1 rfl) ?_
  refine lv_iconst (v := 0) hx hb dX6_character_2 (by decide) ?_
  refine lv_aload_n hx hb dX6_character_3 rfl (lv_at hl 0 rfl) ?_
  refine gt_X6_194 hc dX6_character_4 hM hW.o (v := .int (md 7 7)) rfl ?_
  refine lv_iconst (v := 1) hx hb dX6_character_7 (by decide) ?_
  refine lv_isub hx hb dX6_character_8 ?_
  refine k_S1 hc [.int v, .int 0, .int ((md 7 7) - 1)] cw_X6_64 dX6_character_9 (c_X6_in l hlf g _ v 0 ((md 7 7) - 1)) hM hS hl.1 rfl rfl ⟨Nat.le_of_ble_eq_true rfl, Nat.le_of_ble_eq_true rfl⟩ ⟨Nat.le_of_ble_eq_true rfl, Nat.le_of_ble_eq_true rfl⟩ (Nat.le_of_ble_eq_true rfl) (fun H locs hM hS => ?_)
  refine lv_if_eq (tgt := 19) hx hb dX6_character_12 (by decide) (fun c_12 => ?_) (fun c_12 => ?_)
  · skip
    have c_12 := bI_eq.mp c_12
    refine lv_iconst (v := 1) hx hb dX6_character_19 (by decide) ?_
    refine pt_X6_36 hc dX6_character_20 hM hS hW.o rfl rfl (Nat.le_of_ble_eq_true rfl) (fun H locs hM hS => ?_)
    have hM := hR.eq hM (putD_sc hW 19 (v := 1) md_s19)
    have hW := MdAt.put (g := g) (M := M) (m := q) (md := (up2 md 7 19 1))
    refine lv_aload_n hx hb dX6_character_23 rfl (lv_at hl 0 rfl) ?_
    refine gt_X6_36 hc dX6_character_24 hM hW.o (v := .int 1) rfl ?_
    refine lv_if_ne (tgt := 40) hx hb dX6_character_27 (by decide) (fun c_27 => ?_) (fun c_27 => ?_)
    · skip
      refine lv_bipush (v := 97) hx hb dX6_character_40 (by decide) ?_
      exact k_zret hc hr dX6_character_42 hM hS (by first | rfl | exact bI_n) (Nat.le_of_ble_eq_true rfl) (Nat.le_of_ble_eq_true rfl) (by first | (simp only [eq_self, eq_false c_12, eq_false c_27, eq_self, bM_l, bM_r, rsM_l, rsM_r, seV_l, seV_r, snE_l, snE_r, up1_at, up1_up1, up2_up2, not_false_eq_true, not_true_eq_false, and_true, true_and, and_false, false_and, and_self, ↓reduceIte, or_true, true_or, or_self, or_false, false_or]; done) | (simp only [eq_self, eq_false c_12, eq_false c_27, eq_self, bM_l, bM_r, rsM_l, rsM_r, seV_l, seV_r, snE_l, snE_r, up1_at, up1_up1, up2_up2, not_false_eq_true, not_true_eq_false, and_true, true_and, and_false, false_and, and_self, ↓reduceIte, or_true, true_or, or_self, or_false, false_or]; rfl))
    · skip
      exact absurd c_27 (by decide)
  · skip
    have c_12 := bI_ne.mp c_12
    refine lv_iconst (v := 0) hx hb dX6_character_15 (by decide) ?_
    refine lv_goto (tgt := 20) hx hb dX6_character_16 (by decide) ?_
    refine pt_X6_36 hc dX6_character_20 hM hS hW.o rfl rfl (Nat.le_of_ble_eq_true rfl) (fun H locs hM hS => ?_)
    have hM := hR.eq hM (putD_sc hW 19 (v := 0) md_s19)
    have hW := MdAt.put (g := g) (M := M) (m := q) (md := (up2 md 7 19 0))
    refine lv_aload_n hx hb dX6_character_23 rfl (lv_at hl 0 rfl) ?_
    refine gt_X6_36 hc dX6_character_24 hM hW.o (v := .int 0) rfl ?_
    refine lv_if_ne (tgt := 40) hx hb dX6_character_27 (by decide) (fun c_27 => ?_) (fun c_27 => ?_)
    · skip
      exact absurd c_27 (by decide)
    · skip
      refine lv_aload_n hx hb dX6_character_30 rfl (lv_at hl 0 rfl) ?_
      refine gt_X6_22 hc dX6_character_31 hM hW.o rfl ?_
      refine lv_iload_n hx hb dX6_character_34 rfl (lv_at hl 1 rfl) ?_
      refine k_iald hc hM (show (putD g M q (up2 md 7 19 0)) (q + 5) = some (.inl (gI g, 100, .inl (md 4))) from (hW.ar 4 (by decide) (by decide) rfl rfl)) (in100 (is_ok h1 c_12)) dX6_character_35 ?_
      refine lv_i2c (v := (c2I ((md 4) v.toNatClampNeg))) hx hb dX6_character_36 rfl ?_
      refine lv_goto (tgt := 42) hx hb dX6_character_37 (by decide) ?_
      exact k_zret hc hr dX6_character_42 hM hS (c2I_ok _) (Nat.le_of_ble_eq_true rfl) (Nat.le_of_ble_eq_true rfl) (by first | (simp only [eq_self, eq_true c_12, eq_true c_27, eq_self, bM_l, bM_r, rsM_l, rsM_r, seV_l, seV_r, snE_l, snE_r, up1_at, up1_up1, up2_up2, not_false_eq_true, not_true_eq_false, and_true, true_and, and_false, false_and, and_self, ↓reduceIte, or_true, true_or, or_self, or_false, false_or]; done) | (simp only [eq_self, eq_true c_12, eq_true c_27, eq_self, bM_l, bM_r, rsM_l, rsM_r, seV_l, seV_r, snE_l, snE_r, up1_at, up1_up1, up2_up2, not_false_eq_true, not_true_eq_false, and_true, true_and, and_false, false_and, and_self, ↓reduceIte, or_true, true_or, or_self, or_false, false_or]; rfl))
