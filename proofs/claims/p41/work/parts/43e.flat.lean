/-! new Flat() -/
theorem upM_upM {M : HM} {a : Nat} {A B : va_E} : upM (upM M a A) a B = upM M a B := by
  funext q
  by_cases h : q = a <;> simp [upM, h]
theorem upM_same {M : HM} {a : Nat} {A : va_E} (h : M a = some A) : upM M a A = M := by
  funext q
  by_cases h1 : q = a
  · simp [upM, h1, h]
  · simp [upM, h1]
def flJ (n : Nat) : FL := fun i k => if i = 9 then (if k = 2 then 5 else if k = 3 then 60 else 0) else if i = 3 then (if k < n then -1 else 0) else if i = 8 then (if k = 3 then nI n else 0) else 0
theorem flJ_0 : flJ 0 = fl0 := by
  funext i k
  unfold flJ fl0
  by_cases h : i = 9
  · simp [h]
  · by_cases h3 : i = 3
    · simp [h3]
    · by_cases h8 : i = 8
      · by_cases hk : k = 3 <;> simp [h8, hk, nI_0]
      · simp [h, h3, h8]
theorem flJ_sz {n : Nat} : flJ n 8 3 = nI n := by simp [flJ]
theorem flJ_next {n : Nat} (h : n < 30) : upR (flJ n) 3 (if rroom 30 (nI n) then nI n + 1 else nI n) (if rroom 30 (nI n) then upd (flJ n 3) (nI n).toNatClampNeg (-1) else flJ n 3) = flJ (n + 1) := by
  have hr : rroom 30 (nI n) := ⟨nI_pos (by omega), nI_lt h (by decide)⟩
  rw [if_pos hr, if_pos hr, nI_clamp (by omega), nI_1]
  funext i k
  unfold upR up2 up1 upd flJ
  by_cases h9 : i = 9
  · simp [h9]
  · by_cases h3 : i = 3
    · subst h3
      by_cases hk : k = n
      · simp [hk]
      · have : (k < n) ↔ (k < n + 1) := by omega
        simp [hk, this]
    · by_cases h8 : i = 8
      · subst h8
        by_cases hk : k = 3 <;> simp [hk]
      · simp [h9, h3, h8]
set_option maxHeartbeats 4000000 in
set_option maxRecDepth 100000 in
theorem c_X0_init (l : Launch) (hlf : l.stackTraces = false) (g : GC) (M : HM) (a : Nat) (hW : M a = some (.inr (2, [.null, .null, .null, .null, .null, .null, .null, .null, .int 0, .int 0, .int 0, .int 0, .int 0]))) : KN g l yX0_init cX0_init 2 3 16 816 [.ref a] M (a + 1) (.inl (none, putF g M a (flJ 30))) := by
  refine k_ctor hlf (by decide) (Nat.le_of_ble_eq_true rfl) fun p e s m below meth c ls hc hr hin2 hnx hsz hM hS hl => ?_
  have hc : Cx g p l s m [.ref a].toArray meth c cX0_init 2 RX0 := hc
  have hin2 : meth.name = "<init>" := hin2
  have hx := hc.1
  have hb := hc.2.1
  have hl : lv_has ls 2 [(0, .ref a)] := hl
  have hz := hM.lt hW
  refine lv_aload_n hx hb dX0_init_0 rfl (lv_at hl 0 rfl) ?_
  refine k_super hc q_X0_3 dX0_init_1 hl.1 ⟨Nat.le_of_ble_eq_true rfl, Nat.le_of_ble_eq_true rfl⟩ ?_
  have hM := hM.eq (upM_same hW).symm
  refine lv_aload_n hx hb dX0_init_4 rfl (lv_at hl 0 rfl) ?_
  refine k_mkRow hc hlf (n := 10) (w := 2) (q := a + 1) (by decide) (by decide) ql_X0_9 cw_X0_11 dX0_init_5 dX0_init_8 (fun H locs cells slots st k => lv_bipush (v := nI 10) hx hb dX0_init_9 (by decide) k) dX0_init_11 hM hS (by omega) (by omega) hl.1 ⟨Nat.le_of_ble_eq_true rfl, Nat.le_of_ble_eq_true rfl⟩ (Nat.le_of_ble_eq_true rfl) (Nat.le_of_ble_eq_true rfl) (Nat.le_of_ble_eq_true rfl) (fun H locs hM hS hz => ?_)
  refine pt_X0_14 hc hin2 dX0_init_14 hM hS (a := a) (fs := [.null, .null, .null, .null, .null, .null, .null, .null, .int 0, .int 0, .int 0, .int 0, .int 0]) (by simp only [putR]; rw [if_neg (by omega), if_neg (by omega)]; exact upM_at) rfl rfl (Nat.le_of_ble_eq_true rfl) (fun H locs hM hS => ?_)
  have hM := hM.eq (putR_upM (by omega))
  have hM : hR g (upM (putR g M (a + 1) 10 0 (fun _ => 0)) a (.inr (2, [.ref (a + 1), .null, .null, .null, .null, .null, .null, .null, .int 0, .int 0, .int 0, .int 0, .int 0]))) H := hM
  have hz := hM.lt (a := a + 2) (e := .inl (gI g, 10, .inl (fun _ => 0))) (by rw [upM_ne (by omega)]; exact RowAt.put.2)
  refine lv_aload_n hx hb dX0_init_17 rfl (lv_at hl 0 rfl) ?_
  refine k_mkRow hc hlf (n := 4) (w := 1) (q := a + 3) (by decide) (by decide) ql_X0_9 cw_X0_11 dX0_init_18 dX0_init_21 (fun H locs cells slots st k => lv_iconst (v := nI 4) hx hb dX0_init_22 (by decide) k) dX0_init_23 hM hS (by omega) (by omega) hl.1 ⟨Nat.le_of_ble_eq_true rfl, Nat.le_of_ble_eq_true rfl⟩ (Nat.le_of_ble_eq_true rfl) (Nat.le_of_ble_eq_true rfl) (Nat.le_of_ble_eq_true rfl) (fun H locs hM hS hz => ?_)
  refine pt_X0_20 hc hin2 dX0_init_26 hM hS (a := a) (fs := [.ref (a + 1), .null, .null, .null, .null, .null, .null, .null, .int 0, .int 0, .int 0, .int 0, .int 0]) (by simp only [putR]; rw [if_neg (by omega), if_neg (by omega)]; exact upM_at) rfl rfl (Nat.le_of_ble_eq_true rfl) (fun H locs hM hS => ?_)
  have hM := hM.eq (putR_upM (by omega))
  have hM : hR g (upM (putR g (putR g M (a + 1) 10 0 (fun _ => 0)) (a + 3) 4 0 (fun _ => 0)) a (.inr (2, [.ref (a + 1), .ref (a + 3), .null, .null, .null, .null, .null, .null, .int 0, .int 0, .int 0, .int 0, .int 0]))) H := hM
  have hz := hM.lt (a := a + 4) (e := .inl (gI g, 4, .inl (fun _ => 0))) (by rw [upM_ne (by omega)]; exact RowAt.put.2)
  refine lv_aload_n hx hb dX0_init_29 rfl (lv_at hl 0 rfl) ?_
  refine k_mkRow hc hlf (n := 4) (w := 1) (q := a + 5) (by decide) (by decide) ql_X0_9 cw_X0_11 dX0_init_30 dX0_init_33 (fun H locs cells slots st k => lv_iconst (v := nI 4) hx hb dX0_init_34 (by decide) k) dX0_init_35 hM hS (by omega) (by omega) hl.1 ⟨Nat.le_of_ble_eq_true rfl, Nat.le_of_ble_eq_true rfl⟩ (Nat.le_of_ble_eq_true rfl) (Nat.le_of_ble_eq_true rfl) (Nat.le_of_ble_eq_true rfl) (fun H locs hM hS hz => ?_)
  refine pt_X0_23 hc hin2 dX0_init_38 hM hS (a := a) (fs := [.ref (a + 1), .ref (a + 3), .null, .null, .null, .null, .null, .null, .int 0, .int 0, .int 0, .int 0, .int 0]) (by simp only [putR]; rw [if_neg (by omega), if_neg (by omega)]; exact upM_at) rfl rfl (Nat.le_of_ble_eq_true rfl) (fun H locs hM hS => ?_)
  have hM := hM.eq (putR_upM (by omega))
  have hM : hR g (upM (putR g (putR g (putR g M (a + 1) 10 0 (fun _ => 0)) (a + 3) 4 0 (fun _ => 0)) (a + 5) 4 0 (fun _ => 0)) a (.inr (2, [.ref (a + 1), .ref (a + 3), .ref (a + 5), .null, .null, .null, .null, .null, .int 0, .int 0, .int 0, .int 0, .int 0]))) H := hM
  have hz := hM.lt (a := a + 6) (e := .inl (gI g, 4, .inl (fun _ => 0))) (by rw [upM_ne (by omega)]; exact RowAt.put.2)
  refine lv_aload_n hx hb dX0_init_41 rfl (lv_at hl 0 rfl) ?_
  refine k_mkRow hc hlf (n := 30) (w := 2) (q := a + 7) (by decide) (by decide) ql_X0_9 cw_X0_11 dX0_init_42 dX0_init_45 (fun H locs cells slots st k => lv_bipush (v := nI 30) hx hb dX0_init_46 (by decide) k) dX0_init_48 hM hS (by omega) (by omega) hl.1 ⟨Nat.le_of_ble_eq_true rfl, Nat.le_of_ble_eq_true rfl⟩ (Nat.le_of_ble_eq_true rfl) (Nat.le_of_ble_eq_true rfl) (Nat.le_of_ble_eq_true rfl) (fun H locs hM hS hz => ?_)
  refine pt_X0_26 hc hin2 dX0_init_51 hM hS (a := a) (fs := [.ref (a + 1), .ref (a + 3), .ref (a + 5), .null, .null, .null, .null, .null, .int 0, .int 0, .int 0, .int 0, .int 0]) (by simp only [putR]; rw [if_neg (by omega), if_neg (by omega)]; exact upM_at) rfl rfl (Nat.le_of_ble_eq_true rfl) (fun H locs hM hS => ?_)
  have hM := hM.eq (putR_upM (by omega))
  have hM : hR g (upM (putR g (putR g (putR g (putR g M (a + 1) 10 0 (fun _ => 0)) (a + 3) 4 0 (fun _ => 0)) (a + 5) 4 0 (fun _ => 0)) (a + 7) 30 0 (fun _ => 0)) a (.inr (2, [.ref (a + 1), .ref (a + 3), .ref (a + 5), .ref (a + 7), .null, .null, .null, .null, .int 0, .int 0, .int 0, .int 0, .int 0]))) H := hM
  have hz := hM.lt (a := a + 8) (e := .inl (gI g, 30, .inl (fun _ => 0))) (by rw [upM_ne (by omega)]; exact RowAt.put.2)
  refine lv_aload_n hx hb dX0_init_54 rfl (lv_at hl 0 rfl) ?_
  refine k_mkRow hc hlf (n := 6) (w := 2) (q := a + 9) (by decide) (by decide) ql_X0_9 cw_X0_11 dX0_init_55 dX0_init_58 (fun H locs cells slots st k => lv_bipush (v := nI 6) hx hb dX0_init_59 (by decide) k) dX0_init_61 hM hS (by omega) (by omega) hl.1 ⟨Nat.le_of_ble_eq_true rfl, Nat.le_of_ble_eq_true rfl⟩ (Nat.le_of_ble_eq_true rfl) (Nat.le_of_ble_eq_true rfl) (Nat.le_of_ble_eq_true rfl) (fun H locs hM hS hz => ?_)
  refine pt_X0_29 hc hin2 dX0_init_64 hM hS (a := a) (fs := [.ref (a + 1), .ref (a + 3), .ref (a + 5), .ref (a + 7), .null, .null, .null, .null, .int 0, .int 0, .int 0, .int 0, .int 0]) (by simp only [putR]; rw [if_neg (by omega), if_neg (by omega)]; exact upM_at) rfl rfl (Nat.le_of_ble_eq_true rfl) (fun H locs hM hS => ?_)
  have hM := hM.eq (putR_upM (by omega))
  have hM : hR g (upM (putR g (putR g (putR g (putR g (putR g M (a + 1) 10 0 (fun _ => 0)) (a + 3) 4 0 (fun _ => 0)) (a + 5) 4 0 (fun _ => 0)) (a + 7) 30 0 (fun _ => 0)) (a + 9) 6 0 (fun _ => 0)) a (.inr (2, [.ref (a + 1), .ref (a + 3), .ref (a + 5), .ref (a + 7), .ref (a + 9), .null, .null, .null, .int 0, .int 0, .int 0, .int 0, .int 0]))) H := hM
  have hz := hM.lt (a := a + 10) (e := .inl (gI g, 6, .inl (fun _ => 0))) (by rw [upM_ne (by omega)]; exact RowAt.put.2)
  refine lv_aload_n hx hb dX0_init_67 rfl (lv_at hl 0 rfl) ?_
  refine k_mkRow hc hlf (n := 6) (w := 2) (q := a + 11) (by decide) (by decide) ql_X0_9 cw_X0_11 dX0_init_68 dX0_init_71 (fun H locs cells slots st k => lv_bipush (v := nI 6) hx hb dX0_init_72 (by decide) k) dX0_init_74 hM hS (by omega) (by omega) hl.1 ⟨Nat.le_of_ble_eq_true rfl, Nat.le_of_ble_eq_true rfl⟩ (Nat.le_of_ble_eq_true rfl) (Nat.le_of_ble_eq_true rfl) (Nat.le_of_ble_eq_true rfl) (fun H locs hM hS hz => ?_)
  refine pt_X0_32 hc hin2 dX0_init_77 hM hS (a := a) (fs := [.ref (a + 1), .ref (a + 3), .ref (a + 5), .ref (a + 7), .ref (a + 9), .null, .null, .null, .int 0, .int 0, .int 0, .int 0, .int 0]) (by simp only [putR]; rw [if_neg (by omega), if_neg (by omega)]; exact upM_at) rfl rfl (Nat.le_of_ble_eq_true rfl) (fun H locs hM hS => ?_)
  have hM := hM.eq (putR_upM (by omega))
  have hM : hR g (upM (putR g (putR g (putR g (putR g (putR g (putR g M (a + 1) 10 0 (fun _ => 0)) (a + 3) 4 0 (fun _ => 0)) (a + 5) 4 0 (fun _ => 0)) (a + 7) 30 0 (fun _ => 0)) (a + 9) 6 0 (fun _ => 0)) (a + 11) 6 0 (fun _ => 0)) a (.inr (2, [.ref (a + 1), .ref (a + 3), .ref (a + 5), .ref (a + 7), .ref (a + 9), .ref (a + 11), .null, .null, .int 0, .int 0, .int 0, .int 0, .int 0]))) H := hM
  have hz := hM.lt (a := a + 12) (e := .inl (gI g, 6, .inl (fun _ => 0))) (by rw [upM_ne (by omega)]; exact RowAt.put.2)
  refine lv_aload_n hx hb dX0_init_80 rfl (lv_at hl 0 rfl) ?_
  refine k_mkRow hc hlf (n := 6) (w := 2) (q := a + 13) (by decide) (by decide) ql_X0_9 cw_X0_11 dX0_init_81 dX0_init_84 (fun H locs cells slots st k => lv_bipush (v := nI 6) hx hb dX0_init_85 (by decide) k) dX0_init_87 hM hS (by omega) (by omega) hl.1 ⟨Nat.le_of_ble_eq_true rfl, Nat.le_of_ble_eq_true rfl⟩ (Nat.le_of_ble_eq_true rfl) (Nat.le_of_ble_eq_true rfl) (Nat.le_of_ble_eq_true rfl) (fun H locs hM hS hz => ?_)
  refine pt_X0_35 hc hin2 dX0_init_90 hM hS (a := a) (fs := [.ref (a + 1), .ref (a + 3), .ref (a + 5), .ref (a + 7), .ref (a + 9), .ref (a + 11), .null, .null, .int 0, .int 0, .int 0, .int 0, .int 0]) (by simp only [putR]; rw [if_neg (by omega), if_neg (by omega)]; exact upM_at) rfl rfl (Nat.le_of_ble_eq_true rfl) (fun H locs hM hS => ?_)
  have hM := hM.eq (putR_upM (by omega))
  have hM : hR g (upM (putR g (putR g (putR g (putR g (putR g (putR g (putR g M (a + 1) 10 0 (fun _ => 0)) (a + 3) 4 0 (fun _ => 0)) (a + 5) 4 0 (fun _ => 0)) (a + 7) 30 0 (fun _ => 0)) (a + 9) 6 0 (fun _ => 0)) (a + 11) 6 0 (fun _ => 0)) (a + 13) 6 0 (fun _ => 0)) a (.inr (2, [.ref (a + 1), .ref (a + 3), .ref (a + 5), .ref (a + 7), .ref (a + 9), .ref (a + 11), .ref (a + 13), .null, .int 0, .int 0, .int 0, .int 0, .int 0]))) H := hM
  have hz := hM.lt (a := a + 14) (e := .inl (gI g, 6, .inl (fun _ => 0))) (by rw [upM_ne (by omega)]; exact RowAt.put.2)
  refine lv_aload_n hx hb dX0_init_93 rfl (lv_at hl 0 rfl) ?_
  refine k_mkRow hc hlf (n := 6) (w := 2) (q := a + 15) (by decide) (by decide) ql_X0_9 cw_X0_11 dX0_init_94 dX0_init_97 (fun H locs cells slots st k => lv_bipush (v := nI 6) hx hb dX0_init_98 (by decide) k) dX0_init_100 hM hS (by omega) (by omega) hl.1 ⟨Nat.le_of_ble_eq_true rfl, Nat.le_of_ble_eq_true rfl⟩ (Nat.le_of_ble_eq_true rfl) (Nat.le_of_ble_eq_true rfl) (Nat.le_of_ble_eq_true rfl) (fun H locs hM hS hz => ?_)
  refine pt_X0_38 hc hin2 dX0_init_103 hM hS (a := a) (fs := [.ref (a + 1), .ref (a + 3), .ref (a + 5), .ref (a + 7), .ref (a + 9), .ref (a + 11), .ref (a + 13), .null, .int 0, .int 0, .int 0, .int 0, .int 0]) (by simp only [putR]; rw [if_neg (by omega), if_neg (by omega)]; exact upM_at) rfl rfl (Nat.le_of_ble_eq_true rfl) (fun H locs hM hS => ?_)
  have hM := hM.eq (putR_upM (by omega))
  have hM : hR g (upM (putR g (putR g (putR g (putR g (putR g (putR g (putR g (putR g M (a + 1) 10 0 (fun _ => 0)) (a + 3) 4 0 (fun _ => 0)) (a + 5) 4 0 (fun _ => 0)) (a + 7) 30 0 (fun _ => 0)) (a + 9) 6 0 (fun _ => 0)) (a + 11) 6 0 (fun _ => 0)) (a + 13) 6 0 (fun _ => 0)) (a + 15) 6 0 (fun _ => 0)) a (.inr (2, [.ref (a + 1), .ref (a + 3), .ref (a + 5), .ref (a + 7), .ref (a + 9), .ref (a + 11), .ref (a + 13), .ref (a + 15), .int 0, .int 0, .int 0, .int 0, .int 0]))) H := hM
  refine lv_aload_n hx hb dX0_init_106 rfl (lv_at hl 0 rfl) ?_
  refine lv_iconst (v := 0) hx hb dX0_init_107 (by decide) ?_
  refine pt_X0_41 hc dX0_init_108 hM hS (a := a) upM_at rfl rfl (Nat.le_of_ble_eq_true rfl) (fun H locs hM hS => ?_)
  have hM := hM.eq upM_upM
  refine lv_aload_n hx hb dX0_init_111 rfl (lv_at hl 0 rfl) ?_
  refine lv_iconst (v := 0) hx hb dX0_init_112 (by decide) ?_
  refine pt_X0_45 hc dX0_init_113 hM hS (a := a) upM_at rfl rfl (Nat.le_of_ble_eq_true rfl) (fun H locs hM hS => ?_)
  have hM := hM.eq upM_upM
  refine lv_aload_n hx hb dX0_init_116 rfl (lv_at hl 0 rfl) ?_
  refine lv_iconst (v := 5) hx hb dX0_init_117 (by decide) ?_
  refine pt_X0_48 hc dX0_init_118 hM hS (a := a) upM_at rfl rfl (Nat.le_of_ble_eq_true rfl) (fun H locs hM hS => ?_)
  have hM := hM.eq upM_upM
  refine lv_aload_n hx hb dX0_init_121 rfl (lv_at hl 0 rfl) ?_
  refine lv_bipush (v := nI 60) hx hb dX0_init_122 (by decide) ?_
  refine pt_X0_51 hc dX0_init_124 hM hS (a := a) upM_at rfl rfl (Nat.le_of_ble_eq_true rfl) (fun H locs hM hS => ?_)
  have hM := hM.eq upM_upM
  refine lv_aload_n hx hb dX0_init_127 rfl (lv_at hl 0 rfl) ?_
  refine lv_iconst (v := 0) hx hb dX0_init_128 (by decide) ?_
  refine pt_X0_54 hc dX0_init_129 hM hS (a := a) upM_at rfl rfl (Nat.le_of_ble_eq_true rfl) (fun H locs hM hS => ?_)
  have hM := hM.eq upM_upM
  have hM : hR g (upM (P8 g M a) a (.inr (2, flO a fl0))) H := hM
  have hM := hM.eq putF_new
  rw [← flJ_0] at hM
  refine lv_iconst (v := 0) hx hb dX0_init_132 (by decide) ?_
  refine lv_istore_n (lv' := [(1, .int (nI 0)), (0, .ref a)]) hx hb dX0_init_133 rfl hl (by decide) rfl (fun ls hl => ?_)
  refine W.widen (k := 16) (n := 816) (Nat.le_of_ble_eq_true rfl) (Nat.le_of_ble_eq_true rfl) ?_
  have lp : ∀ (D k : Nat), 30 - k < D → k ≤ 30 → ∀ (ls : Array Slot) (H : Heap) (locs : List Loc), hR g (putF g M a (flJ k)) H → va_S (gA g) s.heap H locs → lv_has ls 2 [(1, .int (nI k)), (0, .ref a)] → W p l e (rmOf 3 16 816) s m [.ref a].toArray below meth c H locs 16 816 (vx_MQ below (KQ g (.inl (none, putF g M a (flJ 30)))) (KX g (.inl (none, putF g M a (flJ 30)))) [.ref a].toArray s 16 816 (gA g)) (F0 m 134 ls []) := by
    intro D
    induction D with
    | zero => intro k hD; exact absurd hD (Nat.not_lt_zero _)
    | succ D ih =>
      intro k hD hk ls H locs hM hS hl
      refine lv_iload_n hx hb dX0_init_134 rfl (lv_at hl 0 rfl) ?_
      refine lv_bipush (v := nI 30) hx hb dX0_init_135 (by decide) ?_
      refine lv_icmp_ge (tgt := 155) hx hb dX0_init_137 (by decide) (fun c_1 => ?_) (fun c_1 => ?_)
      · have e : k = 30 := by
          rcases Nat.lt_or_ge k 30 with h | h
          · exact absurd c_1 (nI_ge h (by decide))
          · omega
        subst e
        exact k_vret hc hr dX0_init_155 hM hS (Nat.le_refl _) (Nat.le_refl _) rfl
      · have hk : k < 30 := by
          rcases Nat.lt_or_ge k 30 with h | h
          · exact h
          · exact absurd (nI_le h (by omega)) c_1
        have hF := FlatAt.put (g := g) (M := M) (a := a) (fl := flJ k)
        have hR3 := hF.row (k := 3) (r := a + 7) (n := 30) (by omega) (by omega) rfl
        rw [flJ_sz] at hR3
        refine lv_aload_n hx hb dX0_init_140 rfl (lv_at hl 1 rfl) ?_
        refine gt_X0_26 hc dX0_init_141 hM hF.o rfl ?_
        refine lv_iconst (v := -1) hx hb dX0_init_144 (by decide) ?_
        refine k_V1 hc [.int (-1)] cw_X0_57 rfl dX0_init_145 (c_X3_add l hlf g _ (a + 7) 30 (nI k) (flJ k 3) (-1) hR3 (by decide)) hR3.1 hM hS hl.1 rfl rfl ⟨Nat.le_of_ble_eq_true rfl, Nat.le_of_ble_eq_true rfl⟩ ⟨Nat.le_of_ble_eq_true rfl, Nat.le_of_ble_eq_true rfl⟩ (Nat.le_of_ble_eq_true rfl) (fun H locs hM hS => ?_)
        have hM := hM.eq ((putF_row hF (k := 3) (by omega) (by omega) rfl).trans (putF_putF.trans (by rw [flJ_next hk])))
        refine lv_pop hx hb dX0_init_148 rfl ?_
        refine lv_iinc (v := (nI (k + 1))) (lv' := [(1, .int (nI (k + 1))), (0, .ref a)]) hx hb dX0_init_149 hl (k := 0) rfl (k_inc1 _) (by decide) rfl (fun ls hl => ?_)
        refine lv_goto (tgt := 134) hx hb dX0_init_152 (by decide) ?_
        exact ih (k + 1) (by omega) (by omega) ls _ _ hM hS hl
  exact lp 31 0 (by omega) (by omega) ls _ _ hM hS hl
