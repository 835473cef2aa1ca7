/-! the commands -/
set_option maxHeartbeats 4000000 in
set_option maxRecDepth 100000 in
theorem c_X5_commands (l : Launch) (hlf : l.stackTraces = false) (g : GC) (M : HM) (x : Nat) (cs : CS) (hW : ClsAt g M x cs) (hn : nxOk cs) (ht : sgOk cs) : KM g l yX5_commands cX5_commands 4 (some .int) 10 3 18 [.ref x] M (if ¬ ccV cs = -1 then if (cmE cs).1 = true then .inl (some (.int (ccV cs)), (putC g M x (kpS (upS (cmE cs).2 1 0)))) else .inr ("java/lang/UnsupportedOperationException", (putC g M x (upS (upC (cmE cs).2 0 ((cmE cs).2 1)) 1 0))) else .inr ("java/lang/IllegalArgumentException", (putC g M x (upS (upS (ccS cs) 8 (ccS cs 11 3 2)) 1 0)))) := by
  refine k_meth hlf (by decide) (Nat.le_of_ble_eq_true rfl) fun p e s m below meth c ls hc hr hnx hM hS hl => ?_
  have hc : Cx g p l s m [.ref x].toArray meth c cX5_commands 4 RX5 := hc
  have hx := hc.1
  have hb := hc.2.1
  have hl : lv_has ls 4 [(0, .ref x)] := hl
  refine lv_aload_n hx hb dX5_commands_0 rfl (lv_at hl 0 rfl) ?_
  refine gt_X5_32 hc dX5_commands_1 hM hW.o rfl ?_
  refine k_V1 hc [] cw_X5_238 rfl dX5_commands_4 (c_X4_countCommands l hlf g _ x cs hW ht) hW.te hM hS hl.1 rfl rfl ⟨Nat.le_of_ble_eq_true rfl, Nat.le_of_ble_eq_true rfl⟩ ⟨Nat.le_of_ble_eq_true rfl, Nat.le_of_ble_eq_true rfl⟩ (Nat.le_of_ble_eq_true rfl) (fun H locs hM hS => ?_)
  have hW := ClsAt.put (g := g) (M := M) (x := x) (cs := (ccS cs))
  refine lv_istore_n (lv' := [(1, .int (ccV cs)), (0, .ref x)]) hx hb dX5_commands_7 rfl hl (by decide) rfl (fun ls hl => ?_)
  refine lv_aload_n hx hb dX5_commands_8 rfl (lv_at hl 1 rfl) ?_
  refine lv_iload_n hx hb dX5_commands_9 rfl (lv_at hl 0 rfl) ?_
  refine lv_iconst (v := (-1)) hx hb dX5_commands_10 (by decide) ?_
  refine lv_icmp_ne (tgt := 24) hx hb dX5_commands_11 (by decide) (fun c_11 => ?_) (fun c_11 => ?_)
  · skip
    refine lv_iconst (v := (-1)) hx hb dX5_commands_24 (by decide) ?_
    refine pt_X5_47 hc dX5_commands_25 hM hS hW.o rfl rfl (Nat.le_of_ble_eq_true rfl) (fun H locs hM hS => ?_)
    have hM := hR.eq hM (putC_ob hW 8 (v := (-1)) (by decide) ob_s8)
    have hM := hR.eq hM putC_putC
    have hW := ClsAt.put (g := g) (M := M) (x := x) (cs := (upS (ccS cs) 8 (-1)))
    refine lv_iload_n hx hb dX5_commands_28 rfl (lv_at hl 0 rfl) ?_
    refine lv_iconst (v := (-1)) hx hb dX5_commands_29 (by decide) ?_
    refine lv_icmp_ne (tgt := 50) hx hb dX5_commands_30 (by decide) (fun c_30 => ?_) (fun c_30 => ?_)
    · skip
      refine lv_aload_n hx hb dX5_commands_50 rfl (lv_at hl 1 rfl) ?_
      refine k_V0 hc [] cw_X5_63 rfl dX5_commands_51 (c_X5_begin l hlf g _ x (upS (ccS cs) 8 (-1)) hW) hW.o hM hS hl.1 rfl rfl ⟨Nat.le_of_ble_eq_true rfl, Nat.le_of_ble_eq_true rfl⟩ ⟨Nat.le_of_ble_eq_true rfl, Nat.le_of_ble_eq_true rfl⟩ (Nat.le_of_ble_eq_true rfl) (fun H locs hM hS => ?_)
      have hM := hR.eq hM putC_putC
      have hW := ClsAt.put (g := g) (M := M) (x := x) (cs := (bgS (upS (ccS cs) 8 (-1))))
      refine lv_aload_n hx hb dX5_commands_54 rfl (lv_at hl 1 rfl) ?_
      refine gt_X5_32 hc dX5_commands_55 hM hW.o rfl ?_
      refine k_V0 hc [] cw_X5_249 rfl dX5_commands_58 (c_X4_rewind l hlf g _ x (bgS (upS (ccS cs) 8 (-1))) hW) hW.te hM hS hl.1 rfl rfl ⟨Nat.le_of_ble_eq_true rfl, Nat.le_of_ble_eq_true rfl⟩ ⟨Nat.le_of_ble_eq_true rfl, Nat.le_of_ble_eq_true rfl⟩ (Nat.le_of_ble_eq_true rfl) (fun H locs hM hS => ?_)
      have hM := hR.eq hM putC_putC
      have hW := ClsAt.put (g := g) (M := M) (x := x) (cs := (upS (bgS (upS (ccS cs) 8 (-1))) 2 0))
      have hM : hR g (putC g M x (cmI cs)) H := hM
      have hW := ClsAt.put (g := g) (M := M) (x := x) (cs := (cmI cs))
      refine lv_iload_n hx hb dX5_commands_61 rfl (lv_at hl 0 rfl) ?_
      refine lv_istore_n (lv' := [(2, .int (ccV cs)), (1, .int (ccV cs)), (0, .ref x)]) hx hb dX5_commands_62 rfl hl (by decide) rfl (fun ls hl => ?_)
      refine lv_iconst (v := 0) hx hb dX5_commands_63 (by decide) ?_
      refine lv_istore_n (lv' := [(3, .int 0), (2, .int (ccV cs)), (1, .int (ccV cs)), (0, .ref x)]) hx hb dX5_commands_64 rfl hl (by decide) rfl (fun ls hl => ?_)
      have lp_65 : ∀ (D k : Nat) (u : CS), ((ccV cs).toNatClampNeg) - k < D → k ≤ (ccV cs).toNatClampNeg → (sgOk u) → (nxOk u) → (cmE cs = cmL ((ccV cs).toNatClampNeg - k) k u) → ∀ (ls : Array Slot) (H : Heap) (locs : List Loc), hR g (putC g M x u) H → va_S (gA g) s.heap H locs → lv_has ls 4 [(3, .int (nI k)), (2, .int (ccV cs)), (1, .int (ccV cs)), (0, .ref x)] → W p l e (rmOf 10 3 18) s m [.ref x].toArray below meth c H locs 0 0 (vx_MQ below (KQ g (if ¬ ccV cs = -1 then if (cmE cs).1 = true then .inl (some (.int (ccV cs)), (putC g M x (kpS (upS (cmE cs).2 1 0)))) else .inr ("java/lang/UnsupportedOperationException", (putC g M x (upS (upC (cmE cs).2 0 ((cmE cs).2 1)) 1 0))) else .inr ("java/lang/IllegalArgumentException", (putC g M x (upS (upS (ccS cs) 8 (ccS cs 11 3 2)) 1 0))))) (KX g (if ¬ ccV cs = -1 then if (cmE cs).1 = true then .inl (some (.int (ccV cs)), (putC g M x (kpS (upS (cmE cs).2 1 0)))) else .inr ("java/lang/UnsupportedOperationException", (putC g M x (upS (upC (cmE cs).2 0 ((cmE cs).2 1)) 1 0))) else .inr ("java/lang/IllegalArgumentException", (putC g M x (upS (upS (ccS cs) 8 (ccS cs 11 3 2)) 1 0))))) [.ref x].toArray s 3 18 (gA g)) (F0 m 65 ls []) := by
        intro D
        induction D with
        | zero => intro k u hD; exact absurd hD (Nat.not_lt_zero _)
        | succ D ih_65 =>
          intro k u hD hk hu hw6 hp ls H locs hM hS hl
          have hW := ClsAt.put (g := g) (M := M) (x := x) (cs := u)
          refine lv_iload_n hx hb dX5_commands_65 rfl (lv_at hl 0 rfl) ?_
          refine lv_iload_n hx hb dX5_commands_66 rfl (lv_at hl 2 rfl) ?_
          refine lv_icmp_ge (tgt := 132) hx hb dX5_commands_67 (by decide) (fun c_67 => ?_) (fun c_67 => ?_)
          · skip
            try have c_67 := (k_le (by have := k_clamp_lt (ccV cs); omega)).mp c_67
            refine lv_iload_n hx hb dX5_commands_132 rfl (lv_at hl 1 rfl) ?_
            refine lv_iconst (v := (-1)) hx hb dX5_commands_133 (by decide) ?_
            refine lv_icmp_ne (tgt := 148) hx hb dX5_commands_134 (by decide) (fun c_134 => ?_) (fun c_134 => ?_)
            · skip
              refine lv_aload_n hx hb dX5_commands_148 rfl (lv_at hl 3 rfl) ?_
              refine gt_X5_32 hc dX5_commands_149 hM hW.o rfl ?_
              refine k_V0 hc [] cw_X5_244 rfl dX5_commands_152 (c_X4_clear l hlf g _ x u hW) hW.te hM hS hl.1 rfl rfl ⟨Nat.le_of_ble_eq_true rfl, Nat.le_of_ble_eq_true rfl⟩ ⟨Nat.le_of_ble_eq_true rfl, Nat.le_of_ble_eq_true rfl⟩ (Nat.le_of_ble_eq_true rfl) (fun H locs hM hS => ?_)
              have hM := hR.eq hM putC_putC
              have hW := ClsAt.put (g := g) (M := M) (x := x) (cs := (upS u 1 0))
              refine lv_aload_n hx hb dX5_commands_155 rfl (lv_at hl 3 rfl) ?_
              refine lv_iload_n hx hb dX5_commands_156 rfl (lv_at hl 1 rfl) ?_
              have q_157_0 : ¬ (ccV cs) = -1 := c_11
              have hK := c_X5_settle l hlf g _ x (upS u 1 0) (ccV cs) hW (nxOk_of hw6 rfl)
              rw [if_pos q_157_0] at hK
              refine k_V1 hc [.int (ccV cs)] cw_X5_70 rfl dX5_commands_157 hK hW.o hM hS hl.1 rfl rfl ⟨Nat.le_of_ble_eq_true rfl, Nat.le_of_ble_eq_true rfl⟩ ⟨Nat.le_of_ble_eq_true rfl, Nat.le_of_ble_eq_true rfl⟩ (Nat.le_of_ble_eq_true rfl) (fun H locs hM hS => ?_)
              have hM := hR.eq hM putC_putC
              have hW := ClsAt.put (g := g) (M := M) (x := x) (cs := (kpS (upS u 1 0)))
              exact k_iret hc hr dX5_commands_160 hM hS (Nat.le_of_ble_eq_true rfl) (Nat.le_of_ble_eq_true rfl) (by have hE : cmE cs = (true, u) := hp.trans (by rw [show (ccV cs).toNatClampNeg - k = 0 by omega]; exact cmL_0); exact cm_resT c_11 hE)
            · skip
              first | exact absurd c_11 c_134 | exact absurd c_134 c_11
          · skip
            try have c_67 : ¬ (ccV cs).toNatClampNeg ≤ k := fun h => c_67 ((k_le (by have := k_clamp_lt (ccV cs); omega)).mpr h)
            refine lv_iload_n hx hb dX5_commands_70 rfl (lv_at hl 1 rfl) ?_
            refine lv_iconst (v := (-1)) hx hb dX5_commands_71 (by decide) ?_
            refine lv_icmp_eq (tgt := 132) hx hb dX5_commands_72 (by decide) (fun c_72 => ?_) (fun c_72 => ?_)
            · skip
              first | exact absurd c_11 c_72 | exact absurd c_72 c_11
            · skip
              refine lv_aload_n hx hb dX5_commands_75 rfl (lv_at hl 3 rfl) ?_
              refine lv_iload_n hx hb dX5_commands_76 rfl (lv_at hl 0 rfl) ?_
              refine pt_X5_51 hc dX5_commands_77 hM hS hW.o rfl rfl (Nat.le_of_ble_eq_true rfl) (fun H locs hM hS => ?_)
              have hM := hR.eq hM (putC_ob hW 9 (v := (nI k)) (by decide) ob_s9)
              have hM := hR.eq hM putC_putC
              have hW := ClsAt.put (g := g) (M := M) (x := x) (cs := (upS u 9 (nI k)))
              refine lv_aload_n hx hb dX5_commands_80 rfl (lv_at hl 3 rfl) ?_
              refine gt_X5_32 hc dX5_commands_81 hM hW.o rfl ?_
              refine k_V1 hc [] cw_X5_252 rfl dX5_commands_84 (c_X4_readCommand l hlf g _ x (upS u 9 (nI k)) hW (sgOk_of hu upS_1)) hW.te hM hS hl.1 rfl rfl ⟨Nat.le_of_ble_eq_true rfl, Nat.le_of_ble_eq_true rfl⟩ ⟨Nat.le_of_ble_eq_true rfl, Nat.le_of_ble_eq_true rfl⟩ (Nat.le_of_ble_eq_true rfl) (fun H locs hM hS => ?_)
              have hM := hR.eq hM putC_putC
              have hW := ClsAt.put (g := g) (M := M) (x := x) (cs := (rcS (upS u 9 (nI k))))
              have hM : hR g (putC g M x (cm1 u k)) H := hM
              have hW := ClsAt.put (g := g) (M := M) (x := x) (cs := (cm1 u k))
              refine lv_pop hx hb dX5_commands_87 rfl ?_
              refine lv_aload_n hx hb dX5_commands_88 rfl (lv_at hl 3 rfl) ?_
              refine lv_aload_n hx hb dX5_commands_89 rfl (lv_at hl 3 rfl) ?_
              refine gt_X5_32 hc dX5_commands_90 hM hW.o rfl ?_
              refine k_V1 hc [] cw_X5_255 rfl dX5_commands_93 (c_X4_kind l hlf g _ x (cm1 u k) hW (rcS_ok (sgOk_of hu upS_1))) hW.te hM hS hl.1 rfl rfl ⟨Nat.le_of_ble_eq_true rfl, Nat.le_of_ble_eq_true rfl⟩ ⟨Nat.le_of_ble_eq_true rfl, Nat.le_of_ble_eq_true rfl⟩ (Nat.le_of_ble_eq_true rfl) (fun H locs hM hS => ?_)
              refine lv_aload_n hx hb dX5_commands_96 rfl (lv_at hl 3 rfl) ?_
              refine gt_X5_32 hc dX5_commands_97 hM hW.o rfl ?_
              refine gt_X5_259 hc dX5_commands_100 hM hW.te rfl ?_
              refine k_V1 hc [.int ((cm1 u k) 11 3 3), .ref (x + 191)] cw_X5_262 rfl dX5_commands_103 (c_X5_carryOut l hlf g _ x (cm1 u k) ((cm1 u k) 11 3 3) hW) hW.o hM hS hl.1 rfl rfl ⟨Nat.le_of_ble_eq_true rfl, Nat.le_of_ble_eq_true rfl⟩ ⟨Nat.le_of_ble_eq_true rfl, Nat.le_of_ble_eq_true rfl⟩ (Nat.le_of_ble_eq_true rfl) (fun H locs hM hS => ?_)
              have hM := hR.eq hM putC_putC
              have hW := ClsAt.put (g := g) (M := M) (x := x) (cs := (rsC (cm1 u k) (coO ((cm1 u k) 11 3 3) (gN (cm1 u k) 0) (gN (cm1 u k) 1) (gN (cm1 u k) 2) ((cm1 u k) 0))))
              refine lv_iconst (v := (-1)) hx hb dX5_commands_106 (by decide) ?_
              refine lv_icmp_ne (tgt := 114) hx hb dX5_commands_107 (by decide) (fun c_107 => ?_) (fun c_107 => ?_)
              · skip
                refine lv_iload_n hx hb dX5_commands_114 rfl (lv_at hl 2 rfl) ?_
                refine lv_istore_n (lv' := [(2, .int (ccV cs)), (3, .int (nI k)), (1, .int (ccV cs)), (0, .ref x)]) hx hb dX5_commands_115 rfl hl (by decide) rfl (fun ls hl => ?_)
                refine lv_aload_n hx hb dX5_commands_116 rfl (lv_at hl 3 rfl) ?_
                refine gt_X5_32 hc dX5_commands_117 hM hW.o rfl ?_
                refine lv_bipush (v := 59) hx hb dX5_commands_120 (by decide) ?_
                refine k_V1 hc [.int 59] cw_X5_266 rfl dX5_commands_122 (c_X4_readSign l hlf g _ x (rsC (cm1 u k) (coO ((cm1 u k) 11 3 3) (gN (cm1 u k) 0) (gN (cm1 u k) 1) (gN (cm1 u k) 2) ((cm1 u k) 0))) 59 hW (sgOk_of hu ((rsC_r1 (by omega)).trans (rcS_1.trans upS_1)))) hW.te hM hS hl.1 rfl rfl ⟨Nat.le_of_ble_eq_true rfl, Nat.le_of_ble_eq_true rfl⟩ ⟨Nat.le_of_ble_eq_true rfl, Nat.le_of_ble_eq_true rfl⟩ (Nat.le_of_ble_eq_true rfl) (fun H locs hM hS => ?_)
                have hM := hR.eq hM putC_putC
                have hW := ClsAt.put (g := g) (M := M) (x := x) (cs := (rsS (rsC (cm1 u k) (coO ((cm1 u k) 11 3 3) (gN (cm1 u k) 0) (gN (cm1 u k) 1) (gN (cm1 u k) 2) ((cm1 u k) 0))) 59))
                have hM : hR g (putC g M x (cm2 u k)) H := hM
                have hW := ClsAt.put (g := g) (M := M) (x := x) (cs := (cm2 u k))
                refine lv_pop hx hb dX5_commands_125 rfl ?_
                refine lv_iinc (v := (nI (k + 1))) (lv' := [(3, .int (nI (k + 1))), (2, .int (ccV cs)), (1, .int (ccV cs)), (0, .ref x)]) hx hb dX5_commands_126 hl (k := 1) rfl (k_inc1 _) (by decide) rfl (fun ls hl => ?_)
                refine lv_goto (tgt := 65) hx hb dX5_commands_129 (by decide) ?_
                exact ih_65 (k + 1) (cm2 u k) (by omega) (by omega) (sgOk_of hu cm2_1) (nxOk_of hw6 cm2_6) (hp.trans (by rw [show (ccV cs).toNatClampNeg - k = ((ccV cs).toNatClampNeg - (k + 1)) + 1 by omega]; exact cmL_f c_107)) ls _ _ hM hS (lv_sub hl [0, 1, 2, 3] rfl)
              · skip
                refine lv_iconst (v := (-1)) hx hb dX5_commands_110 (by decide) ?_
                refine lv_goto (tgt := 115) hx hb dX5_commands_111 (by decide) ?_
                refine lv_istore_n (lv' := [(2, .int (-1)), (3, .int (nI k)), (1, .int (ccV cs)), (0, .ref x)]) hx hb dX5_commands_115 rfl hl (by decide) rfl (fun ls hl => ?_)
                refine lv_aload_n hx hb dX5_commands_116 rfl (lv_at hl 3 rfl) ?_
                refine gt_X5_32 hc dX5_commands_117 hM hW.o rfl ?_
                refine lv_bipush (v := 59) hx hb dX5_commands_120 (by decide) ?_
                refine k_V1 hc [.int 59] cw_X5_266 rfl dX5_commands_122 (c_X4_readSign l hlf g _ x (rsC (cm1 u k) (coO ((cm1 u k) 11 3 3) (gN (cm1 u k) 0) (gN (cm1 u k) 1) (gN (cm1 u k) 2) ((cm1 u k) 0))) 59 hW (sgOk_of hu ((rsC_r1 (by omega)).trans (rcS_1.trans upS_1)))) hW.te hM hS hl.1 rfl rfl ⟨Nat.le_of_ble_eq_true rfl, Nat.le_of_ble_eq_true rfl⟩ ⟨Nat.le_of_ble_eq_true rfl, Nat.le_of_ble_eq_true rfl⟩ (Nat.le_of_ble_eq_true rfl) (fun H locs hM hS => ?_)
                have hM := hR.eq hM putC_putC
                have hW := ClsAt.put (g := g) (M := M) (x := x) (cs := (rsS (rsC (cm1 u k) (coO ((cm1 u k) 11 3 3) (gN (cm1 u k) 0) (gN (cm1 u k) 1) (gN (cm1 u k) 2) ((cm1 u k) 0))) 59))
                have hM : hR g (putC g M x (cm2 u k)) H := hM
                have hW := ClsAt.put (g := g) (M := M) (x := x) (cs := (cm2 u k))
                refine lv_pop hx hb dX5_commands_125 rfl ?_
                refine lv_iinc (v := (nI (k + 1))) (lv' := [(3, .int (nI (k + 1))), (2, .int (-1)), (1, .int (ccV cs)), (0, .ref x)]) hx hb dX5_commands_126 hl (k := 1) rfl (k_inc1 _) (by decide) rfl (fun ls hl => ?_)
                refine lv_goto (tgt := 65) hx hb dX5_commands_129 (by decide) ?_
                refine lv_iload_n hx hb dX5_commands_65 rfl (lv_at hl 0 rfl) ?_
                refine lv_iload_n hx hb dX5_commands_66 rfl (lv_at hl 2 rfl) ?_
                refine lv_icmp_ge (tgt := 132) hx hb dX5_commands_67 (by decide) (fun c_67 => ?_) (fun c_67 => ?_)
                · skip
                  try have c_67 := (k_le (by have := k_clamp_lt (ccV cs); omega)).mp c_67
                  refine lv_iload_n hx hb dX5_commands_132 rfl (lv_at hl 1 rfl) ?_
                  refine lv_iconst (v := (-1)) hx hb dX5_commands_133 (by decide) ?_
                  refine lv_icmp_ne (tgt := 148) hx hb dX5_commands_134 (by decide) (fun c_134 => ?_) (fun c_134 => ?_)
                  · skip
                    exact absurd c_134 (by decide)
                  · skip
                    refine lv_aload_n hx hb dX5_commands_137 rfl (lv_at hl 3 rfl) ?_
                    refine gt_X5_10 hc dX5_commands_138 hM hW.o rfl ?_
                    refine lv_aload_n hx hb dX5_commands_141 rfl (lv_at hl 3 rfl) ?_
                    refine gt_X5_16 hc dX5_commands_142 hM hW.o rfl ?_
                    refine k_V0 hc [.ref (x + 18)] cw_X5_270 rfl dX5_commands_145 (c_X0_copyFrom l hlf g _ (x + 1) (x + 18) ((cm2 u k) 0) ((cm2 u k) 1) (hW.flat (k := 0) (a := x + 1) (by decide) rfl) (hW.flat (k := 1) (a := x + 18) (by decide) rfl) (by omega)) (hW.flat (k := 0) (a := x + 1) (by decide) rfl).o hM hS hl.1 rfl rfl ⟨Nat.le_of_ble_eq_true rfl, Nat.le_of_ble_eq_true rfl⟩ ⟨Nat.le_of_ble_eq_true rfl, Nat.le_of_ble_eq_true rfl⟩ (Nat.le_of_ble_eq_true rfl) (fun H locs hM hS => ?_)
                    have hM := hR.eq hM (putC_flat hW (k := 0) (by decide) rfl)
                    have hM := hR.eq hM putC_putC
                    have hW := ClsAt.put (g := g) (M := M) (x := x) (cs := (upC (cm2 u k) 0 ((cm2 u k) 1)))
                    refine lv_aload_n hx hb dX5_commands_148 rfl (lv_at hl 3 rfl) ?_
                    refine gt_X5_32 hc dX5_commands_149 hM hW.o rfl ?_
                    refine k_V0 hc [] cw_X5_244 rfl dX5_commands_152 (c_X4_clear l hlf g _ x (upC (cm2 u k) 0 ((cm2 u k) 1)) hW) hW.te hM hS hl.1 rfl rfl ⟨Nat.le_of_ble_eq_true rfl, Nat.le_of_ble_eq_true rfl⟩ ⟨Nat.le_of_ble_eq_true rfl, Nat.le_of_ble_eq_true rfl⟩ (Nat.le_of_ble_eq_true rfl) (fun H locs hM hS => ?_)
                    have hM := hR.eq hM putC_putC
                    have hW := ClsAt.put (g := g) (M := M) (x := x) (cs := (upS (upC (cm2 u k) 0 ((cm2 u k) 1)) 1 0))
                    refine lv_aload_n hx hb dX5_commands_155 rfl (lv_at hl 3 rfl) ?_
                    refine lv_iload_n hx hb dX5_commands_156 rfl (lv_at hl 1 rfl) ?_
                    have q_157_0 : ¬ (¬ (-1 : Int32) = -1) := (fun h => h rfl)
                    have hK := c_X5_settle l hlf g _ x (upS (upC (cm2 u k) 0 ((cm2 u k) 1)) 1 0) (-1) hW (nxOk_of hw6 (k6_u.trans cm2_6))
                    rw [if_neg q_157_0] at hK
                    refine k_VX hc [.int (-1)] cw_X5_70 rfl dX5_commands_157 hK hW.o hM hS hl.1 rfl rfl ⟨Nat.le_of_ble_eq_true rfl, Nat.le_of_ble_eq_true rfl⟩ ⟨Nat.le_of_ble_eq_true rfl, Nat.le_of_ble_eq_true rfl⟩ (Nat.le_of_ble_eq_true rfl) (fun H locs q9 ce hM hS h1 h2 h3 => ?_)
                    exact k_out hc hnx hM hS (Nat.le_of_ble_eq_true rfl) (Nat.le_of_ble_eq_true rfl) h1 h2 h3 (by have hE : cmE cs = (false, cm2 u k) := hp.trans (by rw [show (ccV cs).toNatClampNeg - k = ((ccV cs).toNatClampNeg - (k + 1)) + 1 by omega]; exact cmL_t c_107); exact cm_resF c_11 hE)
                · skip
                  try have c_67 : ¬ (ccV cs).toNatClampNeg ≤ k := fun h => c_67 ((k_le (by have := k_clamp_lt (ccV cs); omega)).mpr h)
                  refine lv_iload_n hx hb dX5_commands_70 rfl (lv_at hl 1 rfl) ?_
                  refine lv_iconst (v := (-1)) hx hb dX5_commands_71 (by decide) ?_
                  refine lv_icmp_eq (tgt := 132) hx hb dX5_commands_72 (by decide) (fun c_72 => ?_) (fun c_72 => ?_)
                  · skip
                    refine lv_iload_n hx hb dX5_commands_132 rfl (lv_at hl 1 rfl) ?_
                    refine lv_iconst (v := (-1)) hx hb dX5_commands_133 (by decide) ?_
                    refine lv_icmp_ne (tgt := 148) hx hb dX5_commands_134 (by decide) (fun c_134 => ?_) (fun c_134 => ?_)
                    · skip
                      first | exact absurd c_72 c_134 | exact absurd c_134 c_72
                    · skip
                      refine lv_aload_n hx hb dX5_commands_137 rfl (lv_at hl 3 rfl) ?_
                      refine gt_X5_10 hc dX5_commands_138 hM hW.o rfl ?_
                      refine lv_aload_n hx hb dX5_commands_141 rfl (lv_at hl 3 rfl) ?_
                      refine gt_X5_16 hc dX5_commands_142 hM hW.o rfl ?_
                      refine k_V0 hc [.ref (x + 18)] cw_X5_270 rfl dX5_commands_145 (c_X0_copyFrom l hlf g _ (x + 1) (x + 18) ((cm2 u k) 0) ((cm2 u k) 1) (hW.flat (k := 0) (a := x + 1) (by decide) rfl) (hW.flat (k := 1) (a := x + 18) (by decide) rfl) (by omega)) (hW.flat (k := 0) (a := x + 1) (by decide) rfl).o hM hS hl.1 rfl rfl ⟨Nat.le_of_ble_eq_true rfl, Nat.le_of_ble_eq_true rfl⟩ ⟨Nat.le_of_ble_eq_true rfl, Nat.le_of_ble_eq_true rfl⟩ (Nat.le_of_ble_eq_true rfl) (fun H locs hM hS => ?_)
                      have hM := hR.eq hM (putC_flat hW (k := 0) (by decide) rfl)
                      have hM := hR.eq hM putC_putC
                      have hW := ClsAt.put (g := g) (M := M) (x := x) (cs := (upC (cm2 u k) 0 ((cm2 u k) 1)))
                      refine lv_aload_n hx hb dX5_commands_148 rfl (lv_at hl 3 rfl) ?_
                      refine gt_X5_32 hc dX5_commands_149 hM hW.o rfl ?_
                      refine k_V0 hc [] cw_X5_244 rfl dX5_commands_152 (c_X4_clear l hlf g _ x (upC (cm2 u k) 0 ((cm2 u k) 1)) hW) hW.te hM hS hl.1 rfl rfl ⟨Nat.le_of_ble_eq_true rfl, Nat.le_of_ble_eq_true rfl⟩ ⟨Nat.le_of_ble_eq_true rfl, Nat.le_of_ble_eq_true rfl⟩ (Nat.le_of_ble_eq_true rfl) (fun H locs hM hS => ?_)
                      have hM := hR.eq hM putC_putC
                      have hW := ClsAt.put (g := g) (M := M) (x := x) (cs := (upS (upC (cm2 u k) 0 ((cm2 u k) 1)) 1 0))
                      refine lv_aload_n hx hb dX5_commands_155 rfl (lv_at hl 3 rfl) ?_
                      refine lv_iload_n hx hb dX5_commands_156 rfl (lv_at hl 1 rfl) ?_
                      have q_157_0 : ¬ (¬ (-1 : Int32) = -1) := (fun h => h rfl)
                      have hK := c_X5_settle l hlf g _ x (upS (upC (cm2 u k) 0 ((cm2 u k) 1)) 1 0) (-1) hW (nxOk_of hw6 (k6_u.trans cm2_6))
                      rw [if_neg q_157_0] at hK
                      refine k_VX hc [.int (-1)] cw_X5_70 rfl dX5_commands_157 hK hW.o hM hS hl.1 rfl rfl ⟨Nat.le_of_ble_eq_true rfl, Nat.le_of_ble_eq_true rfl⟩ ⟨Nat.le_of_ble_eq_true rfl, Nat.le_of_ble_eq_true rfl⟩ (Nat.le_of_ble_eq_true rfl) (fun H locs q9 ce hM hS h1 h2 h3 => ?_)
                      exact k_out hc hnx hM hS (Nat.le_of_ble_eq_true rfl) (Nat.le_of_ble_eq_true rfl) h1 h2 h3 (by have hE : cmE cs = (false, cm2 u k) := hp.trans (by rw [show (ccV cs).toNatClampNeg - k = ((ccV cs).toNatClampNeg - (k + 1)) + 1 by omega]; exact cmL_t c_107); exact cm_resF c_11 hE)
                  · skip
                    exact absurd c_72 (by decide)
      have z_3 : 0 = (nI 0) := rfl
      have hl := lv_chg (lv_sub hl [0, 1, 2, 3] rfl) z_3
      exact lp_65 ((ccV cs).toNatClampNeg + 1) 0 (cmI cs) (by omega) (by omega) (sgOk_of ht cmI_1) (nxOk_of hn cmI_6) rfl ls _ _ hM hS (lv_sub hl [0, 1, 2, 3] rfl)
    · skip
      first | exact absurd c_11 c_30 | exact absurd c_30 c_11
  · skip
    refine lv_aload_n hx hb dX5_commands_14 rfl (lv_at hl 1 rfl) ?_
    refine gt_X5_32 hc dX5_commands_15 hM hW.o rfl ?_
    refine k_V1 hc [] cw_X5_241 rfl dX5_commands_18 (c_X4_position l hlf g _ x (ccS cs) hW) hW.te hM hS hl.1 rfl rfl ⟨Nat.le_of_ble_eq_true rfl, Nat.le_of_ble_eq_true rfl⟩ ⟨Nat.le_of_ble_eq_true rfl, Nat.le_of_ble_eq_true rfl⟩ (Nat.le_of_ble_eq_true rfl) (fun H locs hM hS => ?_)
    refine lv_goto (tgt := 25) hx hb dX5_commands_21 (by decide) ?_
    refine pt_X5_47 hc dX5_commands_25 hM hS hW.o rfl rfl (Nat.le_of_ble_eq_true rfl) (fun H locs hM hS => ?_)
    have hM := hR.eq hM (putC_ob hW 8 (v := ((ccS cs) 11 3 2)) (by decide) ob_s8)
    have hM := hR.eq hM putC_putC
    have hW := ClsAt.put (g := g) (M := M) (x := x) (cs := (upS (ccS cs) 8 ((ccS cs) 11 3 2)))
    refine lv_iload_n hx hb dX5_commands_28 rfl (lv_at hl 0 rfl) ?_
    refine lv_iconst (v := (-1)) hx hb dX5_commands_29 (by decide) ?_
    refine lv_icmp_ne (tgt := 50) hx hb dX5_commands_30 (by decide) (fun c_30 => ?_) (fun c_30 => ?_)
    · skip
      first | exact absurd c_11 c_30 | exact absurd c_30 c_11
    · skip
      refine lv_aload_n hx hb dX5_commands_33 rfl (lv_at hl 1 rfl) ?_
      refine gt_X5_32 hc dX5_commands_34 hM hW.o rfl ?_
      refine k_V0 hc [] cw_X5_244 rfl dX5_commands_37 (c_X4_clear l hlf g _ x (upS (ccS cs) 8 ((ccS cs) 11 3 2)) hW) hW.te hM hS hl.1 rfl rfl ⟨Nat.le_of_ble_eq_true rfl, Nat.le_of_ble_eq_true rfl⟩ ⟨Nat.le_of_ble_eq_true rfl, Nat.le_of_ble_eq_true rfl⟩ (Nat.le_of_ble_eq_true rfl) (fun H locs hM hS => ?_)
      have hM := hR.eq hM putC_putC
      have hW := ClsAt.put (g := g) (M := M) (x := x) (cs := (upS (upS (ccS cs) 8 ((ccS cs) 11 3 2)) 1 0))
      exact k_throw hc hnx th_IllegalArgumentException 24 tx_24 hM hS hl.1 dX5_commands_40 dX5_commands_43 dX5_commands_44 dX5_commands_46 dX5_commands_49 ⟨Nat.le_of_ble_eq_true rfl, Nat.le_of_ble_eq_true rfl, Nat.le_of_ble_eq_true rfl, Nat.le_of_ble_eq_true rfl⟩ (Nat.le_of_ble_eq_true rfl) (Nat.le_of_ble_eq_true rfl) (by rw [if_neg (fun h => h c_11)])
