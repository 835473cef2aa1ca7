/-! new MirageSurveyModel() -/
def md0 : FL := fun i => if i = 0 then upd (upd (fun _ => 0) 1 5) 6 60 else if i = 7 then upd (fun _ => 0) 13 (-1) else fun _ => 0
def mdX (g : GC) (M : HM) (m : Nat) : HM := upM (upM (upM (upM (upM (upM (upM M (m + 1) (.inl (gI g, 81, .inl (md0 0)))) (m + 2) (.inl (gI g, 81, .inl (fun _ => 0)))) (m + 3) (.inl (gI g, 648, .inl (fun _ => 0)))) (m + 4) (.inl (gI g, 81, .inl (fun _ => 0)))) (m + 5) (.inl (gI g, 100, .inl (fun _ => 0)))) (m + 6) (.inl (gC g, 60, .inl (fun _ => 0)))) (m + 7) (.inl (gI g, 3, .inl (fun _ => 0)))
theorem mdX_eq {g : GC} {M : HM} {m : Nat} : upM (mdX g M m) m (.inr (8, mdO m md0)) = putD g M m md0 := by
  funext q
  by_cases hq : m ≤ q ∧ q < m + 8
  · obtain ⟨j, rfl⟩ : ∃ j, q = m + j := ⟨q - m, by omega⟩
    unfold putD
    rw [if_pos hq, Nat.add_sub_cancel_left]
    have h : j = 0 ∨ j = 1 ∨ j = 2 ∨ j = 3 ∨ j = 4 ∨ j = 5 ∨ j = 6 ∨ j = 7 := by omega
    unfold mdX
    rcases h with rfl | rfl | rfl | rfl | rfl | rfl | rfl | rfl
    · exact upM_at
    · rw [upM_ne (by omega), upM_ne (by omega), upM_ne (by omega), upM_ne (by omega), upM_ne (by omega), upM_ne (by omega), upM_ne (by omega), upM_at]; rfl
    · rw [upM_ne (by omega), upM_ne (by omega), upM_ne (by omega), upM_ne (by omega), upM_ne (by omega), upM_ne (by omega), upM_at]; rfl
    · rw [upM_ne (by omega), upM_ne (by omega), upM_ne (by omega), upM_ne (by omega), upM_ne (by omega), upM_at]; rfl
    · rw [upM_ne (by omega), upM_ne (by omega), upM_ne (by omega), upM_ne (by omega), upM_at]; rfl
    · rw [upM_ne (by omega), upM_ne (by omega), upM_ne (by omega), upM_at]; rfl
    · rw [upM_ne (by omega), upM_ne (by omega), upM_at]; rfl
    · rw [upM_ne (by omega), upM_at]; rfl
  · unfold mdX putD
    rw [if_neg hq]
    have e : ∀ k, k < 8 → q ≠ m + k := fun k hk h => hq (by omega)
    rw [upM_ne (fun h => hq (by omega)), upM_ne (e 7 (by omega)), upM_ne (e 6 (by omega)), upM_ne (e 5 (by omega)), upM_ne (e 4 (by omega)), upM_ne (e 3 (by omega)), upM_ne (e 2 (by omega)), upM_ne (e 1 (by omega))]
theorem upM_com {M : HM} {a b : Nat} {A B : va_E} (h : a ≠ b) : upM (upM M a A) b B = upM (upM M b B) a A := by
  funext q
  by_cases h1 : q = a
  · subst h1; rw [upM_ne h, upM_at, upM_at]
  · by_cases h2 : q = b
    · subst h2; rw [upM_at, upM_ne h1, upM_at]
    · rw [upM_ne h2, upM_ne h1, upM_ne h1, upM_ne h2]
theorem eqO.M {x a : Nat} {A : va_E} {P P' : HM} (h : eqO x P P') : eqO x (upM P a A) (upM P' a A) := fun q hq => by
  unfold upM; rw [h q hq]
/-- the array of now, written behind the six that were made later -/
theorem mdX_now {M : HM} {m : Nat} {A B C1 C2 C3 C4 C5 C6 D : va_E} : upM (upM (upM (upM (upM (upM (upM (upM (upM M (m + 1) A) (m + 2) C1) (m + 3) C2) (m + 4) C3) (m + 5) C4) (m + 6) C5) (m + 7) C6) m D) (m + 1) B = upM (upM (upM (upM (upM (upM (upM (upM M (m + 1) B) (m + 2) C1) (m + 3) C2) (m + 4) C3) (m + 5) C4) (m + 6) C5) (m + 7) C6) m D := by
  rw [upM_com (a := m) (by omega), upM_com (a := m + 7) (by omega), upM_com (a := m + 6) (by omega), upM_com (a := m + 5) (by omega), upM_com (a := m + 4) (by omega), upM_com (a := m + 3) (by omega), upM_com (a := m + 2) (by omega), upM_upM]
set_option maxHeartbeats 4000000 in
set_option maxRecDepth 100000 in
theorem c_X6_init (l : Launch) (hlf : l.stackTraces = false) (g : GC) (M : HM) (m9 : Nat) (hW : M m9 = some (.inr (8, [.null, .null, .null, .int 0, .null, .int 0, .null, .int 0, .null, .int 0, .int 0, .int 0, .null, .int 0, .int 0, .int 0, .int 0, .int 0, .int 0, .int 0]))) : KN g l yX6_init cX6_init 1 2 7 1054 [.ref m9] M (m9 + 1) (.inl (none, putD g M m9 md0)) := by
  refine k_ctor hlf (by decide) (Nat.le_of_ble_eq_true rfl) fun p e s m below meth c ls hc hr hin2 hnx hsz hM hS hl => ?_
  have hc : Cx g p l s m [.ref m9].toArray meth c cX6_init 1 RX6 := hc
  have hin2 : meth.name = "<init>" := hin2
  have hx := hc.1
  have hb := hc.2.1
  have hl : lv_has ls 1 [(0, .ref m9)] := hl
  have hz := hM.lt hW
  refine lv_aload_n hx hb dX6_init_0 rfl (lv_at hl 0 rfl) ?_
  refine k_super hc q_X6_3 dX6_init_1 hl.1 ⟨Nat.le_of_ble_eq_true rfl, Nat.le_of_ble_eq_true rfl⟩ ?_
  have hM := hM.eq (upM_same hW).symm
  refine lv_aload_n hx hb dX6_init_4 rfl (lv_at hl 0 rfl) ?_
  refine lv_bipush (v := nI 81) hx hb dX6_init_5 (by decide) ?_
  refine k_newaI hc (N' := 81) (by decide) (by decide) (by decide) dX6_init_7 hM hS (q := m9 + 1) (by omega) (by omega) (Nat.le_of_ble_eq_true rfl) (Nat.le_of_ble_eq_true rfl) (fun H hM hS => ?_)
  refine pt_X6_9 hc hin2 dX6_init_9 hM hS (a := m9) (fs := [.null, .null, .null, .int 0, .null, .int 0, .null, .int 0, .null, .int 0, .int 0, .int 0, .null, .int 0, .int 0, .int 0, .int 0, .int 0, .int 0, .int 0]) (by rw [upM_ne (by omega), upM_at]) rfl rfl (Nat.le_of_ble_eq_true rfl) (fun H locs hM hS => ?_)
  have hM := hM.eq (eqO.up (eqO.M eqO.of))
  have hM : hR g (upM (upM M (m9 + 1) (.inl (gI g, 81, .inl (fun _ => 0)))) m9 (.inr (8, [.ref (m9 + 1), .null, .null, .int 0, .null, .int 0, .null, .int 0, .null, .int 0, .int 0, .int 0, .null, .int 0, .int 0, .int 0, .int 0, .int 0, .int 0, .int 0]))) H := hM
  have hz := hM.lt (a := m9 + 1) (e := .inl (gI g, 81, .inl (fun _ => 0))) (by rw [upM_ne (by omega), upM_at])
  refine lv_aload_n hx hb dX6_init_12 rfl (lv_at hl 0 rfl) ?_
  refine lv_bipush (v := nI 81) hx hb dX6_init_13 (by decide) ?_
  refine k_newaI hc (N' := 81) (by decide) (by decide) (by decide) dX6_init_15 hM hS (q := m9 + 2) (by omega) (by omega) (Nat.le_of_ble_eq_true rfl) (Nat.le_of_ble_eq_true rfl) (fun H hM hS => ?_)
  refine pt_X6_13 hc hin2 dX6_init_17 hM hS (a := m9) (fs := [.ref (m9 + 1), .null, .null, .int 0, .null, .int 0, .null, .int 0, .null, .int 0, .int 0, .int 0, .null, .int 0, .int 0, .int 0, .int 0, .int 0, .int 0, .int 0]) (by rw [upM_ne (by omega), upM_at]) rfl rfl (Nat.le_of_ble_eq_true rfl) (fun H locs hM hS => ?_)
  have hM := hM.eq (eqO.up (eqO.M eqO.of))
  have hM : hR g (upM (upM (upM M (m9 + 1) (.inl (gI g, 81, .inl (fun _ => 0)))) (m9 + 2) (.inl (gI g, 81, .inl (fun _ => 0)))) m9 (.inr (8, [.ref (m9 + 1), .ref (m9 + 2), .null, .int 0, .null, .int 0, .null, .int 0, .null, .int 0, .int 0, .int 0, .null, .int 0, .int 0, .int 0, .int 0, .int 0, .int 0, .int 0]))) H := hM
  have hz := hM.lt (a := m9 + 2) (e := .inl (gI g, 81, .inl (fun _ => 0))) (by rw [upM_ne (by omega), upM_at])
  refine lv_aload_n hx hb dX6_init_20 rfl (lv_at hl 0 rfl) ?_
  refine lv_sipush (v := nI 648) hx hb dX6_init_21 (by decide) ?_
  refine k_newaI hc (N' := 648) (by decide) (by decide) (by decide) dX6_init_24 hM hS (q := m9 + 3) (by omega) (by omega) (Nat.le_of_ble_eq_true rfl) (Nat.le_of_ble_eq_true rfl) (fun H hM hS => ?_)
  refine pt_X6_16 hc hin2 dX6_init_26 hM hS (a := m9) (fs := [.ref (m9 + 1), .ref (m9 + 2), .null, .int 0, .null, .int 0, .null, .int 0, .null, .int 0, .int 0, .int 0, .null, .int 0, .int 0, .int 0, .int 0, .int 0, .int 0, .int 0]) (by rw [upM_ne (by omega), upM_at]) rfl rfl (Nat.le_of_ble_eq_true rfl) (fun H locs hM hS => ?_)
  have hM := hM.eq (eqO.up (eqO.M eqO.of))
  have hM : hR g (upM (upM (upM (upM M (m9 + 1) (.inl (gI g, 81, .inl (fun _ => 0)))) (m9 + 2) (.inl (gI g, 81, .inl (fun _ => 0)))) (m9 + 3) (.inl (gI g, 648, .inl (fun _ => 0)))) m9 (.inr (8, [.ref (m9 + 1), .ref (m9 + 2), .ref (m9 + 3), .int 0, .null, .int 0, .null, .int 0, .null, .int 0, .int 0, .int 0, .null, .int 0, .int 0, .int 0, .int 0, .int 0, .int 0, .int 0]))) H := hM
  have hz := hM.lt (a := m9 + 3) (e := .inl (gI g, 648, .inl (fun _ => 0))) (by rw [upM_ne (by omega), upM_at])
  refine lv_aload_n hx hb dX6_init_29 rfl (lv_at hl 0 rfl) ?_
  refine lv_bipush (v := nI 81) hx hb dX6_init_30 (by decide) ?_
  refine k_newaI hc (N' := 81) (by decide) (by decide) (by decide) dX6_init_32 hM hS (q := m9 + 4) (by omega) (by omega) (Nat.le_of_ble_eq_true rfl) (Nat.le_of_ble_eq_true rfl) (fun H hM hS => ?_)
  refine pt_X6_19 hc hin2 dX6_init_34 hM hS (a := m9) (fs := [.ref (m9 + 1), .ref (m9 + 2), .ref (m9 + 3), .int 0, .null, .int 0, .null, .int 0, .null, .int 0, .int 0, .int 0, .null, .int 0, .int 0, .int 0, .int 0, .int 0, .int 0, .int 0]) (by rw [upM_ne (by omega), upM_at]) rfl rfl (Nat.le_of_ble_eq_true rfl) (fun H locs hM hS => ?_)
  have hM := hM.eq (eqO.up (eqO.M eqO.of))
  have hM : hR g (upM (upM (upM (upM (upM M (m9 + 1) (.inl (gI g, 81, .inl (fun _ => 0)))) (m9 + 2) (.inl (gI g, 81, .inl (fun _ => 0)))) (m9 + 3) (.inl (gI g, 648, .inl (fun _ => 0)))) (m9 + 4) (.inl (gI g, 81, .inl (fun _ => 0)))) m9 (.inr (8, [.ref (m9 + 1), .ref (m9 + 2), .ref (m9 + 3), .int 0, .ref (m9 + 4), .int 0, .null, .int 0, .null, .int 0, .int 0, .int 0, .null, .int 0, .int 0, .int 0, .int 0, .int 0, .int 0, .int 0]))) H := hM
  have hz := hM.lt (a := m9 + 4) (e := .inl (gI g, 81, .inl (fun _ => 0))) (by rw [upM_ne (by omega), upM_at])
  refine lv_aload_n hx hb dX6_init_37 rfl (lv_at hl 0 rfl) ?_
  refine lv_bipush (v := nI 100) hx hb dX6_init_38 (by decide) ?_
  refine k_newaI hc (N' := 100) (by decide) (by decide) (by decide) dX6_init_40 hM hS (q := m9 + 5) (by omega) (by omega) (Nat.le_of_ble_eq_true rfl) (Nat.le_of_ble_eq_true rfl) (fun H hM hS => ?_)
  refine pt_X6_22 hc hin2 dX6_init_42 hM hS (a := m9) (fs := [.ref (m9 + 1), .ref (m9 + 2), .ref (m9 + 3), .int 0, .ref (m9 + 4), .int 0, .null, .int 0, .null, .int 0, .int 0, .int 0, .null, .int 0, .int 0, .int 0, .int 0, .int 0, .int 0, .int 0]) (by rw [upM_ne (by omega), upM_at]) rfl rfl (Nat.le_of_ble_eq_true rfl) (fun H locs hM hS => ?_)
  have hM := hM.eq (eqO.up (eqO.M eqO.of))
  have hM : hR g (upM (upM (upM (upM (upM (upM M (m9 + 1) (.inl (gI g, 81, .inl (fun _ => 0)))) (m9 + 2) (.inl (gI g, 81, .inl (fun _ => 0)))) (m9 + 3) (.inl (gI g, 648, .inl (fun _ => 0)))) (m9 + 4) (.inl (gI g, 81, .inl (fun _ => 0)))) (m9 + 5) (.inl (gI g, 100, .inl (fun _ => 0)))) m9 (.inr (8, [.ref (m9 + 1), .ref (m9 + 2), .ref (m9 + 3), .int 0, .ref (m9 + 4), .int 0, .ref (m9 + 5), .int 0, .null, .int 0, .int 0, .int 0, .null, .int 0, .int 0, .int 0, .int 0, .int 0, .int 0, .int 0]))) H := hM
  have hz := hM.lt (a := m9 + 5) (e := .inl (gI g, 100, .inl (fun _ => 0))) (by rw [upM_ne (by omega), upM_at])
  refine lv_aload_n hx hb dX6_init_45 rfl (lv_at hl 0 rfl) ?_
  refine lv_bipush (v := nI 60) hx hb dX6_init_46 (by decide) ?_
  refine k_newaC hc (N' := 60) (by decide) (by decide) (by decide) dX6_init_48 hM hS (q := m9 + 6) (by omega) (by omega) (Nat.le_of_ble_eq_true rfl) (Nat.le_of_ble_eq_true rfl) (fun H hM hS => ?_)
  refine pt_X6_25 hc hin2 dX6_init_50 hM hS (a := m9) (fs := [.ref (m9 + 1), .ref (m9 + 2), .ref (m9 + 3), .int 0, .ref (m9 + 4), .int 0, .ref (m9 + 5), .int 0, .null, .int 0, .int 0, .int 0, .null, .int 0, .int 0, .int 0, .int 0, .int 0, .int 0, .int 0]) (by rw [upM_ne (by omega), upM_at]) rfl rfl (Nat.le_of_ble_eq_true rfl) (fun H locs hM hS => ?_)
  have hM := hM.eq (eqO.up (eqO.M eqO.of))
  have hM : hR g (upM (upM (upM (upM (upM (upM (upM M (m9 + 1) (.inl (gI g, 81, .inl (fun _ => 0)))) (m9 + 2) (.inl (gI g, 81, .inl (fun _ => 0)))) (m9 + 3) (.inl (gI g, 648, .inl (fun _ => 0)))) (m9 + 4) (.inl (gI g, 81, .inl (fun _ => 0)))) (m9 + 5) (.inl (gI g, 100, .inl (fun _ => 0)))) (m9 + 6) (.inl (gC g, 60, .inl (fun _ => 0)))) m9 (.inr (8, [.ref (m9 + 1), .ref (m9 + 2), .ref (m9 + 3), .int 0, .ref (m9 + 4), .int 0, .ref (m9 + 5), .int 0, .ref (m9 + 6), .int 0, .int 0, .int 0, .null, .int 0, .int 0, .int 0, .int 0, .int 0, .int 0, .int 0]))) H := hM
  have hz := hM.lt (a := m9 + 6) (e := .inl (gC g, 60, .inl (fun _ => 0))) (by rw [upM_ne (by omega), upM_at])
  refine lv_aload_n hx hb dX6_init_53 rfl (lv_at hl 0 rfl) ?_
  refine lv_iconst (v := nI 3) hx hb dX6_init_54 (by decide) ?_
  refine k_newaI hc (N' := 3) (by decide) (by decide) (by decide) dX6_init_55 hM hS (q := m9 + 7) (by omega) (by omega) (Nat.le_of_ble_eq_true rfl) (Nat.le_of_ble_eq_true rfl) (fun H hM hS => ?_)
  refine pt_X6_29 hc hin2 dX6_init_57 hM hS (a := m9) (fs := [.ref (m9 + 1), .ref (m9 + 2), .ref (m9 + 3), .int 0, .ref (m9 + 4), .int 0, .ref (m9 + 5), .int 0, .ref (m9 + 6), .int 0, .int 0, .int 0, .null, .int 0, .int 0, .int 0, .int 0, .int 0, .int 0, .int 0]) (by rw [upM_ne (by omega), upM_at]) rfl rfl (Nat.le_of_ble_eq_true rfl) (fun H locs hM hS => ?_)
  have hM := hM.eq (eqO.up (eqO.M eqO.of))
  have hM : hR g (upM (upM (upM (upM (upM (upM (upM (upM M (m9 + 1) (.inl (gI g, 81, .inl (fun _ => 0)))) (m9 + 2) (.inl (gI g, 81, .inl (fun _ => 0)))) (m9 + 3) (.inl (gI g, 648, .inl (fun _ => 0)))) (m9 + 4) (.inl (gI g, 81, .inl (fun _ => 0)))) (m9 + 5) (.inl (gI g, 100, .inl (fun _ => 0)))) (m9 + 6) (.inl (gC g, 60, .inl (fun _ => 0)))) (m9 + 7) (.inl (gI g, 3, .inl (fun _ => 0)))) m9 (.inr (8, [.ref (m9 + 1), .ref (m9 + 2), .ref (m9 + 3), .int 0, .ref (m9 + 4), .int 0, .ref (m9 + 5), .int 0, .ref (m9 + 6), .int 0, .int 0, .int 0, .ref (m9 + 7), .int 0, .int 0, .int 0, .int 0, .int 0, .int 0, .int 0]))) H := hM
  have hz := hM.lt (a := m9 + 7) (e := .inl (gI g, 3, .inl (fun _ => 0))) (by rw [upM_ne (by omega), upM_at])
  refine lv_aload_n hx hb dX6_init_60 rfl (lv_at hl 0 rfl) ?_
  refine lv_iconst (v := -1) hx hb dX6_init_61 (by decide) ?_
  refine pt_X6_32 hc dX6_init_62 hM hS (a := m9) upM_at rfl rfl (Nat.le_of_ble_eq_true rfl) (fun H locs hM hS => ?_)
  have hM := hM.eq upM_upM
  refine lv_aload_n hx hb dX6_init_65 rfl (lv_at hl 0 rfl) ?_
  refine gt_X6_9 hc dX6_init_66 hM upM_at rfl ?_
  refine lv_iconst (v := nI 1) hx hb dX6_init_69 (by decide) ?_
  refine lv_iconst (v := 5) hx hb dX6_init_70 (by decide) ?_
  refine k_iast hc hM hS (a := m9 + 1) (n := 81) (f := fun _ => 0) (by rw [upM_ne (by omega), upM_ne (by omega), upM_ne (by omega), upM_ne (by omega), upM_ne (by omega), upM_ne (by omega), upM_ne (by omega), upM_at]) (vp_in_nI (by decide) (by decide)) dX6_init_71 (fun H locs hM hS => ?_)
  have hM := hM.eq mdX_now
  refine lv_aload_n hx hb dX6_init_72 rfl (lv_at hl 0 rfl) ?_
  refine gt_X6_9 hc dX6_init_73 hM upM_at rfl ?_
  refine lv_bipush (v := nI 6) hx hb dX6_init_76 (by decide) ?_
  refine lv_bipush (v := 60) hx hb dX6_init_78 (by decide) ?_
  refine k_iast hc hM hS (a := m9 + 1) (n := 81) (f := upd (fun _ => 0) (nI 1).toNatClampNeg 5) (by rw [upM_ne (by omega), upM_ne (by omega), upM_ne (by omega), upM_ne (by omega), upM_ne (by omega), upM_ne (by omega), upM_ne (by omega), upM_at]) (vp_in_nI (by decide) (by decide)) dX6_init_80 (fun H locs hM hS => ?_)
  have hM := hM.eq mdX_now
  rw [nI_clamp (by decide), nI_clamp (by decide)] at hM
  have hM : hR g (upM (mdX g M m9) m9 (.inr (8, mdO m9 md0))) H := hM
  exact k_vret hc hr dX6_init_81 (hM.eq mdX_eq) hS (Nat.le_of_ble_eq_true rfl) (Nat.le_of_ble_eq_true rfl) rfl
