/-! new Flat() as a step; History, the class, the reference -/
section KMF
variable {p : Program} {l : Launch} {e : Env} {R : Room} {s : State} {m : MethodId} {args : Array Value} {below : List Frame} {meth : Method} {c : Code} {H : Heap} {locs : List Loc} {cells slots : Nat} {Q : State → Prop}
variable {cc : ByteArray} {pc nL : Nat} {ls : Array Slot} {rest : List Value} {g : GC} {M : HM} {own : String} {a : Nat}
theorem putF_over {a : Nat} {fl : FL} {A : va_E} : putF g (upM M a A) a fl = putF g M a fl := by
  funext q
  unfold putF
  by_cases h : a ≤ q ∧ q < a + 17
  · rw [if_pos h, if_pos h]
  · rw [if_neg h, if_neg h, upM_ne (by omega)]
theorem k_mkFlat (hc : Cx g p l s m args meth c cc nL own) (hlf : l.stackTraces = false) {idx ic q : Nat} (ql : Cond.classLink own idx RX0 ∈ lw_all) (cw : CwI own ic 0 yX0_init cX0_init 2)
    (d0 : decode cc pc = .ok (.new idx, 3)) (d3 : decode cc (pc + 3) = .ok (.dup, 1)) (d4 : decode cc (pc + 4) = .ok (.invokespecial ic, 3)) (hM : hR g M H) (hS : va_S (gA g) s.heap H locs) (hq : s.heap.size + cells = q) (hlow : q ≤ H.size) (hsz : ls.size = nL)
    (hroom : 4 ≤ R.frames ∧ 201 ≤ R.locals) (hcells : cells + 17 ≤ R.cells) (hslots : slots + 829 ≤ R.slots) (hW : (rest.map fun v => v.category).sum ≤ 7)
    (kk : ∀ (H1 : Heap) (locs1 : List Loc), hR g (putF g M q (flJ 30)) H1 → va_S (gA g) s.heap H1 locs1 → q + 17 ≤ H1.size → W p l e R s m args below meth c H1 locs1 (cells + 17) (slots + 829) Q (F0 m (pc + 7) ls (.ref q :: rest))) : W p l e R s m args below meth c H locs cells slots Q (F0 m pc ls rest) := by
  refine k_new hc (T := TX0) (ci := 2) in_X0 tyX0 tyX0_ok rfl ql qm_X0 qn_X0 (fs := [.null, .null, .null, .null, .null, .null, .null, .null, .int 0, .int 0, .int 0, .int 0, .int 0]) (fun j hj => ?_) d0 hM hS hq hlow (by omega) (by omega) (fun H1 hM1 hS1 => ?_)
  · match j, hj with
    | 0, _ => rfl
    | 1, _ => rfl
    | 2, _ => rfl
    | 3, _ => rfl
    | 4, _ => rfl
    | 5, _ => rfl
    | 6, _ => rfl
    | 7, _ => rfl
    | 8, _ => rfl
    | 9, _ => rfl
    | 10, _ => rfl
    | 11, _ => rfl
    | 12, _ => rfl
  refine lv_dup hc.1 hc.2.1 d3 rfl ?_
  refine k_size fun hz => ?_
  have hlt := hM1.lt upM_at
  have hz1 : H1.size = q + 1 := by omega
  refine k_goI hc (KPn.blind) cw d4 (c_X0_init l hlf g _ q upM_at) (hc.preN hM1 hS1 hz1) (As := []) (rest := .ref q :: rest) hS1 rfl hsz ⟨hroom.1, hroom.2⟩ ⟨by omega, by omega⟩ (by have h9 : (Value.ref q).category = 1 := rfl; simp only [List.map_cons, List.sum_cons, h9]; omega) (fun v M1 H2 locs2 hres hM2 hS2 => ?_) (fun E M1 H2 locs2 q9 ce hres => by cases hres)
  cases hres
  rw [putF_over] at hM2
  refine W.widen (k := cells + 17) (n := slots + 829) (by omega) (by omega) ?_
  exact kk H2 locs2 hM2 hS2 (hM2.lt (a := q + 16) (FlatAt.put 16 (by omega)))
end KMF
def hiA0 (h n : Nat) : Nat → Option Nat := fun i => if i < n then some (h + 2 + 17 * i) else none
def hisN (g : GC) (M : HM) (h n : Nat) : HM := fun q => if q = h then some (.inr (3, [.ref (h + 1), .int 0, .int 0])) else if q = h + 1 then some (.inl (gF g, 8, .inr (.inr (.inr (.inr (hiA0 h n)))))) else if h + 2 ≤ q ∧ q < h + 2 + 17 * n then some (flC g (h + 2 + 17 * ((q - h - 2) / 17)) (flJ 30) ((q - h - 2) % 17)) else M q
theorem hiA0_0 {h : Nat} : hiA0 h 0 = fun _ => none := by
  funext i; simp [hiA0]
theorem hisN_0 {g : GC} {M : HM} {h : Nat} : upM (upM M (h + 1) (.inl (gF g, 8, .inr (.inr (.inr (.inr (fun _ => none))))))) h (.inr (3, [.ref (h + 1), .int 0, .int 0])) = hisN g M h 0 := by
  funext q
  unfold hisN upM
  by_cases h1 : q = h
  · rw [if_pos h1, if_pos h1]
  · rw [if_neg h1, if_neg h1]
    by_cases h2 : q = h + 1
    · rw [if_pos h2, if_pos h2, hiA0_0]
    · rw [if_neg h2, if_neg h2, if_neg (by omega)]
theorem hiA0_next {h n : Nat} : va_up (hiA0 h n) n (some (h + 2 + 17 * n)) = hiA0 h (n + 1) := by
  funext i
  unfold va_up hiA0
  by_cases h1 : i = n
  · subst h1; simp
  · have : (i < n) ↔ (i < n + 1) := by omega
    simp [h1, this]
theorem hisN_next {g : GC} {M : HM} {h n : Nat} : upM (putF g (hisN g M h n) (h + 2 + 17 * n) (flJ 30)) (h + 1) (.inl (gF g, 8, .inr (.inr (.inr (.inr (va_up (hiA0 h n) n (some (h + 2 + 17 * n)))))))) = hisN g M h (n + 1) := by
  rw [hiA0_next]
  funext q
  unfold upM putF hisN
  by_cases h2 : q = h + 1
  · rw [if_pos h2, if_neg (by omega), if_pos h2]
  · rw [if_neg h2]
    by_cases h1 : q = h
    · rw [if_neg (by omega), if_pos h1, if_pos h1]
    · rw [if_neg h1, if_neg h2, if_neg h1, if_neg h2]
      by_cases h3 : h + 2 + 17 * n ≤ q ∧ q < h + 2 + 17 * n + 17
      · rw [if_pos h3, if_pos (by omega), show (q - h - 2) / 17 = n by omega, show (q - h - 2) % 17 = q - (h + 2 + 17 * n) by omega]
      · rw [if_neg h3]
        by_cases h4 : h + 2 ≤ q ∧ q < h + 2 + 17 * n
        · rw [if_pos h4, if_pos (by omega)]
        · rw [if_neg h4, if_neg (by omega)]
set_option maxHeartbeats 4000000 in
set_option maxRecDepth 100000 in
theorem c_X1_init (l : Launch) (hlf : l.stackTraces = false) (g : GC) (M : HM) (h : Nat) (hW : M h = some (.inr (3, [.null, .int 0, .int 0]))) : KN g l yX1_init cX1_init 2 4 137 6640 [.ref h] M (h + 1) (.inl (none, hisN g M h 8)) := by
  refine k_ctor hlf (by decide) (Nat.le_of_ble_eq_true rfl) fun p e s m below meth c ls hc hr hin2 hnx hsz hM hS hl => ?_
  have hc : Cx g p l s m [.ref h].toArray meth c cX1_init 2 RX1 := hc
  have hin2 : meth.name = "<init>" := hin2
  have hx := hc.1
  have hb := hc.2.1
  have hl : lv_has ls 2 [(0, .ref h)] := hl
  have hz := hM.lt hW
  refine lv_aload_n hx hb dX1_init_0 rfl (lv_at hl 0 rfl) ?_
  refine k_super hc q_X1_3 dX1_init_1 hl.1 ⟨Nat.le_of_ble_eq_true rfl, Nat.le_of_ble_eq_true rfl⟩ ?_
  refine lv_aload_n hx hb dX1_init_4 rfl (lv_at hl 0 rfl) ?_
  refine lv_bipush (v := nI 8) hx hb dX1_init_5 (by decide) ?_
  refine k_newq hc ql_X1_9 (N' := 8) (by decide) (by decide) (by decide) dX1_init_7 hM hS (q := h + 1) (by omega) (by omega) (Nat.le_of_ble_eq_true rfl) (Nat.le_of_ble_eq_true rfl) (fun H hM hS => ?_)
  refine pt_X1_11 hc hin2 dX1_init_10 hM hS (a := h) (fs := [.null, .int 0, .int 0]) (by rw [upM_ne (by omega)]; exact hW) rfl rfl (Nat.le_of_ble_eq_true rfl) (fun H locs hM hS => ?_)
  refine lv_aload_n hx hb dX1_init_13 rfl (lv_at hl 0 rfl) ?_
  refine lv_iconst (v := 0) hx hb dX1_init_14 (by decide) ?_
  refine pt_X1_17 hc dX1_init_15 hM hS (a := h) upM_at rfl rfl (Nat.le_of_ble_eq_true rfl) (fun H locs hM hS => ?_)
  have hM := hM.eq upM_upM
  refine lv_aload_n hx hb dX1_init_18 rfl (lv_at hl 0 rfl) ?_
  refine lv_iconst (v := 0) hx hb dX1_init_19 (by decide) ?_
  refine pt_X1_21 hc dX1_init_20 hM hS (a := h) upM_at rfl rfl (Nat.le_of_ble_eq_true rfl) (fun H locs hM hS => ?_)
  have hM := hM.eq upM_upM
  have hM := hM.eq hisN_0
  refine lv_iconst (v := 0) hx hb dX1_init_23 (by decide) ?_
  refine lv_istore_n (lv' := [(1, .int (nI 0)), (0, .ref h)]) hx hb dX1_init_24 rfl hl (by decide) rfl (fun ls hl => ?_)
  refine W.widen (k := 1 + 17 * 0) (n := 8 + 829 * 0) (Nat.le_of_ble_eq_true rfl) (Nat.le_of_ble_eq_true rfl) ?_
  have lp : ∀ (D k : Nat), 8 - k < D → k ≤ 8 → ∀ (ls : Array Slot) (H : Heap) (locs : List Loc), hR g (hisN g M h k) H → va_S (gA g) s.heap H locs → lv_has ls 2 [(1, .int (nI k)), (0, .ref h)] → W p l e (rmOf 4 137 6640) s m [.ref h].toArray below meth c H locs (1 + 17 * k) (8 + 829 * k) (vx_MQ below (KQ g (.inl (none, hisN g M h 8))) (KX g (.inl (none, hisN g M h 8))) [.ref h].toArray s 137 6640 (gA g)) (F0 m 25 ls []) := by
    intro D
    induction D with
    | zero => intro k hD; exact absurd hD (Nat.not_lt_zero _)
    | succ D ih =>
      intro k hD hk ls H locs hM hS hl
      have hob : hisN g M h k h = some (.inr (3, [.ref (h + 1), .int 0, .int 0])) := by unfold hisN; rw [if_pos rfl]
      have har : hisN g M h k (h + 1) = some (.inl (gF g, 8, .inr (.inr (.inr (.inr (hiA0 h k)))))) := by unfold hisN; rw [if_neg (by omega), if_pos rfl]
      refine lv_iload_n hx hb dX1_init_25 rfl (lv_at hl 0 rfl) ?_
      refine lv_aload_n hx hb dX1_init_26 rfl (lv_at hl 1 rfl) ?_
      refine gt_X1_11 hc dX1_init_27 hM hob rfl ?_
      refine k_alenF hc hM har dX1_init_30 ?_
      refine lv_icmp_ge (tgt := 53) hx hb dX1_init_31 (by decide) (fun c_1 => ?_) (fun c_1 => ?_)
      · have e : k = 8 := by
          rcases Nat.lt_or_ge k 8 with h | h
          · exact absurd c_1 (nI_ge h (by decide))
          · omega
        subst e
        exact k_vret hc hr dX1_init_53 hM hS (Nat.le_of_ble_eq_true rfl) (Nat.le_of_ble_eq_true rfl) rfl
      · have hk : k < 8 := by
          rcases Nat.lt_or_ge k 8 with h | h
          · exact h
          · exact absurd (nI_le h (by omega)) c_1
        have hz2 : h + 2 + 17 * k ≤ H.size := by
          rcases Nat.eq_zero_or_pos k with rfl | h0
          · have := hM.lt har; omega
          · have := hM.lt (a := h + 1 + 17 * k) (e := flC g (h + 2 + 17 * (k - 1)) (flJ 30) 16) (by unfold hisN; rw [if_neg (by omega), if_neg (by omega), if_pos (by omega), show (h + 1 + 17 * k - h - 2) / 17 = k - 1 by omega, show (h + 1 + 17 * k - h - 2) % 17 = 16 by omega])
            omega
        refine lv_aload_n hx hb dX1_init_34 rfl (lv_at hl 1 rfl) ?_
        refine gt_X1_11 hc dX1_init_35 hM hob rfl ?_
        refine lv_iload_n hx hb dX1_init_38 rfl (lv_at hl 0 rfl) ?_
        refine k_mkFlat hc hlf (q := h + 2 + 17 * k) ql_X1_9 cw_X1_24 dX1_init_39 dX1_init_42 dX1_init_43 hM hS (by omega) hz2 hl.1 ⟨Nat.le_of_ble_eq_true rfl, Nat.le_of_ble_eq_true rfl⟩ (by show _ ≤ 137; omega) (by show _ ≤ 6640; omega) (Nat.le_of_ble_eq_true rfl) (fun H locs hM hS hz3 => ?_)
        refine k_aast hc hM hS (a := h + 1) (v := h + 2 + 17 * k) (f := hiA0 h k) (by unfold putF; rw [if_neg (by omega)]; exact har) FlatAt.put.o (vp_in_nI (by omega) (by decide)) dX1_init_46 (fun H locs hM hS => ?_)
        have hM := hM.eq (show _ = hisN g M h (k + 1) from by rw [nI_clamp (by omega)]; exact hisN_next)
        refine lv_iinc (v := (nI (k + 1))) (lv' := [(1, .int (nI (k + 1))), (0, .ref h)]) hx hb dX1_init_47 hl (k := 0) rfl (k_inc1 _) (by decide) rfl (fun ls hl => ?_)
        refine lv_goto (tgt := 25) hx hb dX1_init_50 (by decide) ?_
        refine W.widen (k := 1 + 17 * (k + 1)) (n := 8 + 829 * (k + 1)) (by omega) (by omega) ?_
        exact ih (k + 1) (by omega) (by omega) ls _ _ hM hS hl
  exact lp 9 0 (by omega) (by omega) ls _ _ hM hS hl
