/-! new MirageSurvey() -/
def cs0 : CS := fun k => if k = 11 then (fun i j => if i = 3 then (if j = 3 then 32 else if j = 8 then -1 else 0) else 0) else flJ 30
def texS (g : GC) (M : HM) (r : Nat) : HM := upM (upM (putR g M (r + 1) 3 0 (fun _ => 0)) (r + 3) (.inl (gC g, 60, .inl (fun _ => 0)))) r (.inr (6, [.ref (r + 1), .ref (r + 3), .int 0, .int 0, .int 32]))
def linS (g : GC) (M : HM) (r : Nat) : HM := upM (upM M (r + 1) (.inl (gC g, 79, .inl (fun _ => 0)))) r (.inr (4, [.ref (r + 1), .int 0]))
def eqO (x : Nat) (P P' : HM) : Prop := ∀ q, q ≠ x → P q = P' q
theorem eqO.up {x : Nat} {P P' : HM} (h : eqO x P P') {B : va_E} : upM P x B = upM P' x B := by
  funext q
  unfold upM
  by_cases h1 : q = x
  · rw [if_pos h1, if_pos h1]
  · rw [if_neg h1, if_neg h1, h q h1]
theorem eqO.of {x : Nat} {P : HM} {A : va_E} : eqO x (upM P x A) P := fun q h => upM_ne h
theorem eqO.refl {x : Nat} {P : HM} : eqO x P P := fun _ _ => rfl
theorem eqO.F {g : GC} {x a : Nat} {fl : FL} {P P' : HM} (h : eqO x P P') : eqO x (putF g P a fl) (putF g P' a fl) := fun q hq => by
  unfold putF; rw [h q hq]
theorem eqO.H {g : GC} {x a n : Nat} {P P' : HM} (h : eqO x P P') : eqO x (hisN g P a n) (hisN g P' a n) := fun q hq => by
  unfold hisN; rw [h q hq]
theorem eqO.T {g : GC} {x a : Nat} {P P' : HM} (h : eqO x P P') : eqO x (texS g P a) (texS g P' a) := fun q hq => by
  unfold texS upM putR; rw [h q hq]
theorem eqO.L {g : GC} {x a : Nat} {P P' : HM} (h : eqO x P P') : eqO x (linS g P a) (linS g P' a) := fun q hq => by
  unfold linS upM; rw [h q hq]
theorem hisN_over {g : GC} {M : HM} {h n : Nat} {A : va_E} : hisN g (upM M h A) h n = hisN g M h n := by
  funext q
  unfold hisN
  by_cases h1 : q = h
  · rw [if_pos h1, if_pos h1]
  · rw [upM_ne h1]
theorem texS_over {g : GC} {M : HM} {r : Nat} {A : va_E} : texS g (upM M r A) r = texS g M r := eqO.up (fun q h => by
  simp only [upM, putR, if_neg h])
theorem linS_over {g : GC} {M : HM} {r : Nat} {A : va_E} : linS g (upM M r A) r = linS g M r := eqO.up (fun q h => by
  simp only [upM, if_neg h])
def clsX (g : GC) (M : HM) (x : Nat) : HM := linS g (texS g (hisN g (putF g (putF g (putF g M (x + 1) (flJ 30)) (x + 18) (flJ 30)) (x + 35) (flJ 30)) (x + 52) 8) (x + 190)) (x + 194)
theorem cs0_f {k : Nat} (h : k ≠ 11) : cs0 k = flJ 30 := by unfold cs0; rw [if_neg h]
theorem hiA_8 {x : Nat} : hiA0 (x + 52) 8 = hiA x := by
  funext i
  unfold hiA0 hiA
  by_cases h : i < 8
  · rw [if_pos h]
  · rw [if_neg h]
theorem cs0_3 {i : Nat} (h3 : i ≠ 3) (h8 : i ≠ 8) : cs0 11 3 i = 0 := by simp [cs0, h3, h8]
theorem clsX_eq {g : GC} {M : HM} {x : Nat} : upM (clsX g M x) x (.inr (7, obO x cs0)) = putC g M x cs0 := by
  refine putC_of (fun j hj => ?_) (fun q hq => ?_)
  · by_cases h0 : j = 0
    · subst h0; rw [Nat.add_zero, upM_at]; rfl
    · rw [upM_ne (by omega)]
      have hz : j = 195 ∨ j = 194 ∨ j = 193 ∨ j = 192 ∨ j = 191 ∨ j = 190 ∨ j < 190 := by omega
      unfold clsX linS texS
      rcases hz with rfl | rfl | rfl | rfl | rfl | rfl | hz
      · rw [upM_ne (by omega), show x + 195 = x + 194 + 1 by omega, upM_at]; rfl
      · rw [upM_at]; rfl
      · rw [upM_ne (by omega), upM_ne (by omega), upM_ne (by omega), show x + 193 = x + 190 + 3 by omega, upM_at]; rfl
      · rw [upM_ne (by omega), upM_ne (by omega), upM_ne (by omega), upM_ne (by omega), show x + 192 = x + 190 + 1 + 1 by omega, RowAt.put.2]; rfl
      · rw [upM_ne (by omega), upM_ne (by omega), upM_ne (by omega), upM_ne (by omega), show x + 191 = x + 190 + 1 by omega, RowAt.put.1]; rfl
      · rw [upM_ne (by omega), upM_ne (by omega), upM_at]; rfl
      · rw [upM_ne (by omega), upM_ne (by omega), upM_ne (by omega), upM_ne (by omega)]
        unfold putR
        rw [if_neg (by omega), if_neg (by omega)]
        unfold hisN clC
        rw [if_neg h0]
        by_cases h52 : j = 52
        · rw [if_pos (by omega), if_neg (by omega), if_pos h52]; rfl
        · rw [if_neg (by omega)]
          by_cases h53 : j = 53
          · rw [if_pos (by omega), if_neg (by omega), if_neg h52, if_pos h53, hiA_8]
          · rw [if_neg (by omega)]
            by_cases h54 : 54 ≤ j
            · rw [if_pos (by omega), if_neg (by omega), if_neg h52, if_neg h53, if_pos hz, show x + j - (x + 52) - 2 = j - 54 by omega, cs0_f (by omega), show x + 52 + 2 + 17 * ((j - 54) / 17) = x + 54 + 17 * ((j - 54) / 17) by omega]
            · rw [if_neg (by omega), if_pos (by omega), cs0_f (by omega)]
              unfold putF
              by_cases h35 : 35 ≤ j
              · rw [if_pos (by omega), show (j - 1) / 17 = 2 by omega, show (j - 1) % 17 = x + j - (x + 35) by omega]
              · rw [if_neg (by omega)]
                by_cases h18 : 18 ≤ j
                · rw [if_pos (by omega), show (j - 1) / 17 = 1 by omega, show (j - 1) % 17 = x + j - (x + 18) by omega]
                · rw [if_neg (by omega), if_pos (by omega), show (j - 1) / 17 = 0 by omega, show (j - 1) % 17 = x + j - (x + 1) by omega]
  · have e : ∀ k, k < 196 → q ≠ x + k := fun k hk h => hq (by omega)
    have e0 : q ≠ x := fun h => hq (by omega)
    rw [upM_ne e0]
    unfold clsX linS texS
    rw [upM_ne (e 194 (by omega)), upM_ne (e 195 (by omega)), upM_ne (e 190 (by omega)), upM_ne (e 193 (by omega))]
    unfold putR
    rw [if_neg (e 191 (by omega)), if_neg (e 192 (by omega))]
    unfold hisN
    rw [if_neg (e 52 (by omega)), if_neg (e 53 (by omega)), if_neg (by omega)]
    unfold putF
    rw [if_neg (by omega), if_neg (by omega), if_neg (by omega)]
set_option maxHeartbeats 4000000 in
set_option maxRecDepth 100000 in
theorem c_X5_init (l : Launch) (hlf : l.stackTraces = false) (g : GC) (M : HM) (x : Nat) (hW : M x = some (.inr (7, [.null, .null, .null, .null, .null, .null, .int 0, .int 0, .int 0, .int 0, .int 0, .int 0]))) : KN g l yX5_init cX5_init 1 5 195 9416 [.ref x] M (x + 1) (.inl (none, putC g M x cs0)) := by
  refine k_ctor hlf (by decide) (Nat.le_of_ble_eq_true rfl) fun p e s m below meth c ls hc hr hin2 hnx hsz hM hS hl => ?_
  have hc : Cx g p l s m [.ref x].toArray meth c cX5_init 1 RX5 := hc
  have hin2 : meth.name = "<init>" := hin2
  have hx := hc.1
  have hb := hc.2.1
  have hl : lv_has ls 1 [(0, .ref x)] := hl
  have hz := hM.lt hW
  refine lv_aload_n hx hb dX5_init_0 rfl (lv_at hl 0 rfl) ?_
  refine k_super hc q_X5_1 dX5_init_1 hl.1 ⟨Nat.le_of_ble_eq_true rfl, Nat.le_of_ble_eq_true rfl⟩ ?_
  have hM := hM.eq (upM_same hW).symm
  refine lv_aload_n hx hb dX5_init_4 rfl (lv_at hl 0 rfl) ?_
  refine k_mkFlat hc hlf (q := x + 1) ql_X5_7 cw_X5_9 dX5_init_5 dX5_init_8 dX5_init_9 hM hS (by omega) (by omega) hl.1 ⟨Nat.le_of_ble_eq_true rfl, Nat.le_of_ble_eq_true rfl⟩ (Nat.le_of_ble_eq_true rfl) (Nat.le_of_ble_eq_true rfl) (Nat.le_of_ble_eq_true rfl) (fun H locs hM hS hz => ?_)
  refine pt_X5_10 hc hin2 dX5_init_12 hM hS (a := x) (fs := [.null, .null, .null, .null, .null, .null, .int 0, .int 0, .int 0, .int 0, .int 0, .int 0]) (by unfold putF; rw [if_neg (by omega)]; exact upM_at) rfl rfl (Nat.le_of_ble_eq_true rfl) (fun H locs hM hS => ?_)
  have hM := hM.eq (eqO.up (eqO.F eqO.of))
  have hM : hR g (upM (putF g M (x + 1) (flJ 30)) x (.inr (7, [.ref (x + 1), .null, .null, .null, .null, .null, .int 0, .int 0, .int 0, .int 0, .int 0, .int 0]))) H := hM
  have hz := hM.lt (a := x + 17) (by rw [upM_ne (by omega)]; exact FlatAt.put 16 (by omega))
  refine lv_aload_n hx hb dX5_init_15 rfl (lv_at hl 0 rfl) ?_
  refine k_mkFlat hc hlf (q := x + 18) ql_X5_7 cw_X5_9 dX5_init_16 dX5_init_19 dX5_init_20 hM hS (by omega) (by omega) hl.1 ⟨Nat.le_of_ble_eq_true rfl, Nat.le_of_ble_eq_true rfl⟩ (Nat.le_of_ble_eq_true rfl) (Nat.le_of_ble_eq_true rfl) (Nat.le_of_ble_eq_true rfl) (fun H locs hM hS hz => ?_)
  refine pt_X5_16 hc hin2 dX5_init_23 hM hS (a := x) (fs := [.ref (x + 1), .null, .null, .null, .null, .null, .int 0, .int 0, .int 0, .int 0, .int 0, .int 0]) (by unfold putF; rw [if_neg (by omega)]; exact upM_at) rfl rfl (Nat.le_of_ble_eq_true rfl) (fun H locs hM hS => ?_)
  have hM := hM.eq (eqO.up (eqO.F eqO.of))
  have hM : hR g (upM (putF g (putF g M (x + 1) (flJ 30)) (x + 18) (flJ 30)) x (.inr (7, [.ref (x + 1), .ref (x + 18), .null, .null, .null, .null, .int 0, .int 0, .int 0, .int 0, .int 0, .int 0]))) H := hM
  have hz := hM.lt (a := x + 34) (by rw [upM_ne (by omega)]; exact FlatAt.put 16 (by omega))
  refine lv_aload_n hx hb dX5_init_26 rfl (lv_at hl 0 rfl) ?_
  refine k_mkFlat hc hlf (q := x + 35) ql_X5_7 cw_X5_9 dX5_init_27 dX5_init_30 dX5_init_31 hM hS (by omega) (by omega) hl.1 ⟨Nat.le_of_ble_eq_true rfl, Nat.le_of_ble_eq_true rfl⟩ (Nat.le_of_ble_eq_true rfl) (Nat.le_of_ble_eq_true rfl) (Nat.le_of_ble_eq_true rfl) (fun H locs hM hS hz => ?_)
  refine pt_X5_19 hc hin2 dX5_init_34 hM hS (a := x) (fs := [.ref (x + 1), .ref (x + 18), .null, .null, .null, .null, .int 0, .int 0, .int 0, .int 0, .int 0, .int 0]) (by unfold putF; rw [if_neg (by omega)]; exact upM_at) rfl rfl (Nat.le_of_ble_eq_true rfl) (fun H locs hM hS => ?_)
  have hM := hM.eq (eqO.up (eqO.F eqO.of))
  have hM : hR g (upM (putF g (putF g (putF g M (x + 1) (flJ 30)) (x + 18) (flJ 30)) (x + 35) (flJ 30)) x (.inr (7, [.ref (x + 1), .ref (x + 18), .ref (x + 35), .null, .null, .null, .int 0, .int 0, .int 0, .int 0, .int 0, .int 0]))) H := hM
  have hz := hM.lt (a := x + 51) (by rw [upM_ne (by omega)]; exact FlatAt.put 16 (by omega))
  refine lv_aload_n hx hb dX5_init_37 rfl (lv_at hl 0 rfl) ?_
  refine k_new hc (T := TX1) (ci := 3) in_X1 tyX1 tyX1_ok rfl ql_X5_22 qm_X1 qn_X1 (fs := [.null, .int 0, .int 0]) (fun j hj => ?_) dX5_init_38 hM hS (q := x + 52) (by omega) (by omega) (Nat.le_of_ble_eq_true rfl) (Nat.le_of_ble_eq_true rfl) (fun H hM hS => ?_)
  · match j, hj with
    | 0, _ => rfl
    | 1, _ => rfl
    | 2, _ => rfl
  refine lv_dup hx hb dX5_init_41 rfl ?_
  refine k_size fun hz1 => ?_
  have hlt := hM.lt upM_at
  refine k_goI hc (KPn.blind) cw_X5_24 dX5_init_42 (c_X1_init l hlf g _ (x + 52) upM_at) (hc.preN hM hS (by omega)) (As := []) (rest := [.ref (x + 52), .ref x]) hS rfl hl.1 ⟨Nat.le_of_ble_eq_true rfl, Nat.le_of_ble_eq_true rfl⟩ ⟨Nat.le_of_ble_eq_true rfl, Nat.le_of_ble_eq_true rfl⟩ (Nat.le_of_ble_eq_true rfl) (fun v M1 H locs hres hM hS => ?_) (fun E M1 H2 locs2 q9 ce hres => by cases hres)
  cases hres
  have hM := hM.eq hisN_over
  refine pt_X5_25 hc hin2 dX5_init_45 hM hS (a := x) (fs := [.ref (x + 1), .ref (x + 18), .ref (x + 35), .null, .null, .null, .int 0, .int 0, .int 0, .int 0, .int 0, .int 0]) (by unfold hisN; rw [if_neg (by omega), if_neg (by omega), if_neg (by omega)]; exact upM_at) rfl rfl (Nat.le_of_ble_eq_true rfl) (fun H locs hM hS => ?_)
  have hM := hM.eq (eqO.up (eqO.H eqO.of))
  have hM : hR g (upM (hisN g (putF g (putF g (putF g M (x + 1) (flJ 30)) (x + 18) (flJ 30)) (x + 35) (flJ 30)) (x + 52) 8) x (.inr (7, [.ref (x + 1), .ref (x + 18), .ref (x + 35), .ref (x + 52), .null, .null, .int 0, .int 0, .int 0, .int 0, .int 0, .int 0]))) H := hM
  have hz := hM.lt (a := x + 189) (e := flC g (x + 173) (flJ 30) 16) (by rw [upM_ne (by omega)]; unfold hisN; rw [if_neg (by omega), if_neg (by omega), if_pos (by omega), show (x + 189 - (x + 52) - 2) / 17 = 7 by omega, show (x + 189 - (x + 52) - 2) % 17 = 16 by omega])
  refine lv_aload_n hx hb dX5_init_48 rfl (lv_at hl 0 rfl) ?_
  refine k_new hc (T := TX4) (ci := 6) in_X4 tyX4 tyX4_ok rfl ql_X5_29 qm_X4 qn_X4 (fs := [.null, .null, .int 0, .int 0, .int 0]) (fun j hj => ?_) dX5_init_49 hM hS (q := x + 190) (by omega) (by omega) (Nat.le_of_ble_eq_true rfl) (Nat.le_of_ble_eq_true rfl) (fun H hM hS => ?_)
  · match j, hj with
    | 0, _ => rfl
    | 1, _ => rfl
    | 2, _ => rfl
    | 3, _ => rfl
    | 4, _ => rfl
  refine lv_dup hx hb dX5_init_52 rfl ?_
  refine k_size fun hz1 => ?_
  have hlt := hM.lt upM_at
  refine k_goIN hc (KPn.blind) cw_X5_31 dX5_init_53 (c_X4_init l hlf g _ (x + 190) upM_at) (hc.preN hM hS (by omega)) (As := []) (rest := [.ref (x + 190), .ref x]) hS rfl hl.1 ⟨Nat.le_of_ble_eq_true rfl, Nat.le_of_ble_eq_true rfl⟩ ⟨Nat.le_of_ble_eq_true rfl, Nat.le_of_ble_eq_true rfl⟩ (Nat.le_of_ble_eq_true rfl) (fun v M1 H locs hres hM hS => ?_) (fun E M1 H2 locs2 q9 ce hres => by cases hres)
  cases hres
  have hM := hM.eq (show _ = texS g _ (x + 190) from texS_over)
  refine pt_X5_32 hc hin2 dX5_init_56 hM hS (a := x) (fs := [.ref (x + 1), .ref (x + 18), .ref (x + 35), .ref (x + 52), .null, .null, .int 0, .int 0, .int 0, .int 0, .int 0, .int 0]) (by unfold texS; rw [upM_ne (by omega), upM_ne (by omega)]; unfold putR; rw [if_neg (by omega), if_neg (by omega)]; exact upM_at) rfl rfl (Nat.le_of_ble_eq_true rfl) (fun H locs hM hS => ?_)
  have hM := hM.eq (eqO.up (eqO.T eqO.of))
  have hM : hR g (upM (texS g (hisN g (putF g (putF g (putF g M (x + 1) (flJ 30)) (x + 18) (flJ 30)) (x + 35) (flJ 30)) (x + 52) 8) (x + 190)) x (.inr (7, [.ref (x + 1), .ref (x + 18), .ref (x + 35), .ref (x + 52), .ref (x + 190), .null, .int 0, .int 0, .int 0, .int 0, .int 0, .int 0]))) H := hM
  have hz := hM.lt (a := x + 193) (e := .inl (gC g, 60, .inl (fun _ => 0))) (by rw [upM_ne (by omega)]; unfold texS; rw [upM_ne (by omega), show x + 193 = x + 190 + 3 by omega, upM_at])
  refine lv_aload_n hx hb dX5_init_59 rfl (lv_at hl 0 rfl) ?_
  refine k_new hc (T := TX2) (ci := 4) in_X2 tyX2 tyX2_ok rfl ql_X5_36 qm_X2 qn_X2 (fs := [.null, .int 0]) (fun j hj => ?_) dX5_init_60 hM hS (q := x + 194) (by omega) (by omega) (Nat.le_of_ble_eq_true rfl) (Nat.le_of_ble_eq_true rfl) (fun H hM hS => ?_)
  · match j, hj with
    | 0, _ => rfl
    | 1, _ => rfl
  refine lv_dup hx hb dX5_init_63 rfl ?_
  refine k_size fun hz1 => ?_
  have hlt := hM.lt upM_at
  refine k_goIN hc (KPn.blind) cw_X5_38 dX5_init_64 (c_X2_init l hlf g _ (x + 194) upM_at) (hc.preN hM hS (by omega)) (As := []) (rest := [.ref (x + 194), .ref x]) hS rfl hl.1 ⟨Nat.le_of_ble_eq_true rfl, Nat.le_of_ble_eq_true rfl⟩ ⟨Nat.le_of_ble_eq_true rfl, Nat.le_of_ble_eq_true rfl⟩ (Nat.le_of_ble_eq_true rfl) (fun v M1 H locs hres hM hS => ?_) (fun E M1 H2 locs2 q9 ce hres => by cases hres)
  cases hres
  have hM := hM.eq (show _ = linS g _ (x + 194) from linS_over)
  refine pt_X5_39 hc hin2 dX5_init_67 hM hS (a := x) (fs := [.ref (x + 1), .ref (x + 18), .ref (x + 35), .ref (x + 52), .ref (x + 190), .null, .int 0, .int 0, .int 0, .int 0, .int 0, .int 0]) (by unfold linS; rw [upM_ne (by omega), upM_ne (by omega)]; exact upM_at) rfl rfl (Nat.le_of_ble_eq_true rfl) (fun H locs hM hS => ?_)
  have hM := hM.eq (eqO.up (eqO.L eqO.of))
  have hM : hR g (upM (clsX g M x) x (.inr (7, [.ref (x + 1), .ref (x + 18), .ref (x + 35), .ref (x + 52), .ref (x + 190), .ref (x + 194), .int 0, .int 0, .int 0, .int 0, .int 0, .int 0]))) H := hM
  refine lv_aload_n hx hb dX5_init_70 rfl (lv_at hl 0 rfl) ?_
  refine lv_iconst (v := 0) hx hb dX5_init_71 (by decide) ?_
  refine pt_X5_43 hc dX5_init_72 hM hS (a := x) upM_at rfl rfl (Nat.le_of_ble_eq_true rfl) (fun H locs hM hS => ?_)
  have hM := hM.eq upM_upM
  refine lv_aload_n hx hb dX5_init_75 rfl (lv_at hl 0 rfl) ?_
  refine lv_iconst (v := -1) hx hb dX5_init_76 (by decide) ?_
  refine pt_X5_47 hc dX5_init_77 hM hS (a := x) upM_at rfl rfl (Nat.le_of_ble_eq_true rfl) (fun H locs hM hS => ?_)
  have hM := hM.eq upM_upM
  refine lv_aload_n hx hb dX5_init_80 rfl (lv_at hl 0 rfl) ?_
  refine lv_iconst (v := 0) hx hb dX5_init_81 (by decide) ?_
  refine pt_X5_51 hc dX5_init_82 hM hS (a := x) upM_at rfl rfl (Nat.le_of_ble_eq_true rfl) (fun H locs hM hS => ?_)
  have hM := hM.eq upM_upM
  refine lv_aload_n hx hb dX5_init_85 rfl (lv_at hl 0 rfl) ?_
  refine lv_iconst (v := 0) hx hb dX5_init_86 (by decide) ?_
  refine pt_X5_54 hc dX5_init_87 hM hS (a := x) upM_at rfl rfl (Nat.le_of_ble_eq_true rfl) (fun H locs hM hS => ?_)
  have hM := hM.eq upM_upM
  refine lv_aload_n hx hb dX5_init_90 rfl (lv_at hl 0 rfl) ?_
  refine lv_iconst (v := 0) hx hb dX5_init_91 (by decide) ?_
  refine pt_X5_57 hc dX5_init_92 hM hS (a := x) upM_at rfl rfl (Nat.le_of_ble_eq_true rfl) (fun H locs hM hS => ?_)
  have hM := hM.eq upM_upM
  refine lv_aload_n hx hb dX5_init_95 rfl (lv_at hl 0 rfl) ?_
  refine lv_iconst (v := 0) hx hb dX5_init_96 (by decide) ?_
  refine pt_X5_60 hc dX5_init_97 hM hS (a := x) upM_at rfl rfl (Nat.le_of_ble_eq_true rfl) (fun H locs hM hS => ?_)
  have hM := hM.eq upM_upM
  have hM : hR g (upM (clsX g M x) x (.inr (7, obO x cs0))) H := hM
  exact k_vret hc hr dX5_init_100 (hM.eq clsX_eq) hS (Nat.le_of_ble_eq_true rfl) (Nat.le_of_ble_eq_true rfl) rfl
