/-! the reference's commands -/
/-- what the reading of a text keeps -/
def mSe (a b : FL) : Prop := (∀ k, k ≠ 6 → k ≠ 7 → b k = a k) ∧ ∀ j, j ≠ 10 → j ≠ 11 → b 7 j = a 7 j
theorem mSe.rf {a : FL} : mSe a a := ⟨fun _ _ _ => rfl, fun _ _ _ => rfl⟩
theorem mSe.tr {a b c : FL} (h : mSe a b) (k : mSe b c) : mSe a c := ⟨fun i h6 h7 => (k.1 i h6 h7).trans (h.1 i h6 h7), fun j h0 h1 => (k.2 j h0 h1).trans (h.2 j h0 h1)⟩
theorem mSe_at {a : FL} {j : Nat} {v : Int32} (h : j = 10 ∨ j = 11) : mSe a (up2 a 7 j v) := ⟨fun k _ h7 => up2_nk h7, fun i h0 h1 => up2_ni (by omega)⟩
theorem mSe_6 {a : FL} {f : MF} : mSe a (up1 a 6 f) := ⟨fun k h6 _ => up1_ne h6, fun i _ _ => by rw [up1_ne (by omega)]⟩
theorem mSe_nx {u : FL} {v : Int32} : mSe u (nxS u v) := by unfold nxS; split; exact mSe_at (by omega); exact mSe.rf
theorem mSe_dg1 {u : FL} {w : Int32} : mSe u (dg1 u w) := (mSe_at (by omega)).tr mSe_6
theorem mSe_dgL {w : Int32} : ∀ (d : Nat) (u : FL), mSe u (dgL w d u)
  | 0, _ => mSe.rf
  | d + 1, u => by
    unfold dgL
    split
    · exact mSe_dg1.tr (mSe_dgL d _)
    · exact mSe.rf
theorem mSe_dgT {u : FL} {w z : Int32} : mSe u (dgT u w z) := mSe_6.tr (mSe_dgL _ _)
theorem mSe_mp : ∀ (bs : List ((Int32 × Int32) ⊕ Int32)) (u : FL), mSe u (mpL bs u).2
  | [], _ => mSe.rf
  | .inl q :: bs, u => by
    unfold mpL
    split
    · exact mSe_dgT.tr (mSe_mp bs _)
    · exact mSe_dgT
  | .inr v :: bs, u => by
    unfold mpL
    split
    · exact mSe_nx.tr (mSe_mp bs _)
    · exact mSe_nx
theorem mSe_ic1 {u : FL} : mSe u (ic1 u) := (mSe_at (by omega)).tr (mSe_at (by omega))
theorem mSe_ic {u : FL} : mSe u (icR u).2 := by
  unfold icR
  split
  · exact mSe.rf
  · repeat (first | (split; exact mSe_ic1.tr (mSe_mp _ _)) | exact mSe_at (by omega))
/-- how far it has been read -/
abbrev atI (u : FL) : Int := (u 7 10).toInt
theorem at_up {u : FL} (h : aOk u) (ne : ¬ u 7 10 = u 7 9) : (u 7 10 + 1).toInt = atI u + 1 := by
  have q1 := Int32.le_iff_toInt_le.mp h.2.1
  have q2 := Int32.le_iff_toInt_le.mp h.2.2
  have e : (60 : Int32).toInt = 60 := rfl
  obtain ⟨U, hU, eU⟩ := nI_of h.1
  show _ = (u 7 10).toInt + 1
  rw [eU] at q1 ⊢
  rw [nI_toInt hU] at q1
  rw [nI_1, nI_toInt (by omega), nI_toInt hU]
  omega
theorem at_60 {u : FL} (h : aOk u) : 0 ≤ atI u ∧ atI u ≤ 60 := by
  have q1 := Int32.le_iff_toInt_le.mp h.2.1
  have q2 := Int32.le_iff_toInt_le.mp h.2.2
  have e : (60 : Int32).toInt = 60 := rfl
  obtain ⟨U, hU, eU⟩ := nI_of h.1
  refine ⟨?_, show (u 7 10).toInt ≤ 60 by omega⟩
  show 0 ≤ (u 7 10).toInt
  rw [eU, nI_toInt hU]
  omega
theorem at_nx {u : FL} {v : Int32} (h : aOk u) : atI u ≤ atI (nxS u v) ∧ (nxP u v → atI (nxS u v) = atI u + 1) := by
  by_cases c : nxP u v
  · have e : nxS u v = up2 u 7 10 (u 7 10 + 1) := if_pos c
    have e2 : atI (nxS u v) = atI u + 1 := by rw [e]; exact at_up h c.1
    exact ⟨by omega, fun _ => e2⟩
  · have e : nxS u v = u := if_neg c
    rw [e]
    exact ⟨Int.le_refl _, fun z => absurd z c⟩
theorem at_dgL {w : Int32} : ∀ (d : Nat) (u : FL), aOk u → atI u ≤ atI (dgL w d u)
  | 0, _, _ => Int.le_refl _
  | d + 1, u, h => by
    unfold dgL
    split
    · rename_i c
      have h1 : atI (dg1 u w) = atI u + 1 := at_up h (ne_of_nle c.1)
      have h2 := at_dgL (w := w) d (dg1 u w) (dg1_ok h c)
      omega
    · exact Int.le_refl _
theorem at_dgT {u : FL} {w z : Int32} (h : aOk u) : atI u ≤ atI (dgT u w z) := at_dgL (w := w) z.toNatClampNeg (dg0 u w) (aOk_e h rfl rfl)
theorem at_mp : ∀ (bs : List ((Int32 × Int32) ⊕ Int32)) (u : FL), aOk u → atI u ≤ atI (mpL bs u).2
  | [], _, _ => Int.le_refl _
  | .inl q :: bs, u, h => by
    unfold mpL
    split
    · exact Int.le_trans (at_dgT h) (at_mp bs _ (dgT_ok h))
    · exact at_dgT h
  | .inr v :: bs, u, h => by
    unfold mpL
    split
    · exact Int.le_trans (at_nx h).1 (at_mp bs _ (nx_ok h))
    · exact (at_nx h).1
theorem at_ic {u : FL} (h : aOk u) : atI u ≤ atI (icR u).2 := by
  unfold icR
  split
  · exact Int.le_refl _
  · rename_i c
    have h1 : aOk (ic1 u) := aOk_s h c rfl rfl
    have h2 : atI (ic1 u) = atI u + 1 := at_up h c
    repeat (first | (split; exact Int.le_trans (by omega) (at_mp _ _ h1)) | exact Int.le_refl _)
theorem rs_7 {md : FL} {r : MR} {j : Nat} (h4 : j ≠ 14) (h5 : j ≠ 15) (h7 : j ≠ 17) (h8 : j ≠ 18) : rsM md r 7 j = md 7 j := by
  cases r with
  | inl q => exact up2_ni h8
  | inr q =>
    show rfM md q.1 q.2 7 j = _
    unfold rfM
    rw [up2_ni h7, up2_ni h5, up2_ni h4]
theorem rs_k {md : FL} {r : MR} {k : Nat} (h0 : k ≠ 0) (h7 : k ≠ 7) : rsM md r k = md k := by
  cases r with
  | inl q => exact (up2_nk h7).trans (up1_ne h0)
  | inr q =>
    show rfM md q.1 q.2 k = _
    unfold rfM
    rw [up2_nk h7, up2_nk h7, up2_nk h7]
/-- what holds where a command begins -/
def meO (G : Nat → MF → Prop) (md : FL) (k : Nat) (u : FL) : Prop := aOk u ∧ (k : Int) ≤ atI u ∧ G k (u 0) ∧ u 5 = md 5 ∧ u 1 = md 0 ∧ u 7 3 = md 7 3
theorem me1_0 {u : FL} {k : Nat} : me1 u k 0 = u 0 := (up2_nk (by omega)).trans (mSe_ic.1 0 (by omega) (by omega))
theorem me2_ok {u : FL} {k : Nat} (h : aOk u) : aOk (me2 u k) ∧ atI u ≤ atI (me2 u k) := by
  have e1 : me2 u k 7 10 = (icR u).2 7 10 := (rs_7 (by omega) (by omega) (by omega) (by omega)).trans (up2_ni (by omega))
  have e2 : me2 u k 7 9 = (icR u).2 7 9 := (rs_7 (by omega) (by omega) (by omega) (by omega)).trans (up2_ni (by omega))
  refine ⟨aOk_e (icR_ok h) e1 e2, ?_⟩
  show _ ≤ (me2 u k 7 10).toInt
  rw [e1]
  exact at_ic h
theorem me2_k {u : FL} {k j : Nat} (h0 : j ≠ 0) (h6 : j ≠ 6) (h7 : j ≠ 7) : me2 u k j = u j := (rs_k h0 h7).trans ((up2_nk h7).trans (mSe_ic.1 j h6 h7))
theorem me2_3 {u : FL} {k : Nat} : me2 u k 7 3 = u 7 3 := (rs_7 (by omega) (by omega) (by omega) (by omega)).trans ((up2_ni (by omega)).trans (mSe_ic.2 3 (by omega) (by omega)))
theorem meO_s {G : Nat → MF → Prop} {md u : FL} {k : Nat} (hGs : ∀ k f v a b d r f2, k < 61 → G k f → coM v a b d f = .inl (r, f2) → G (k + 1) f2) (h : meO G md k u) (hk : k < 61) (c : ¬ bM (meR (me1 u k)) = 0) (n : nxP (me2 u k) 59) : meO G md (k + 1) (nxS (me2 u k) 59) ∧ k + 1 ≤ 60 := by
  obtain ⟨h1, h2, h3, h4, h5, h6⟩ := h
  have a1 := me2_ok (k := k) h1
  have a2 := (at_nx (v := 59) a1.1).2 n
  have a3 := at_60 (nx_ok (v := 59) a1.1)
  refine ⟨⟨nx_ok a1.1, by omega, ?_, ?_, ?_, ?_⟩, by omega⟩
  · have e : nxS (me2 u k) 59 0 = me2 u k 0 := mSe_nx.1 0 (by omega) (by omega)
    rw [e]
    cases hr : meR (me1 u k) with
    | inl q =>
      have hr2 : coM (me1 u k 7 11) (me1 u k 6 0) (me1 u k 6 1) (me1 u k 6 2) (u 0) = .inl (q.1, q.2) := by rw [← me1_0 (u := u) (k := k)]; exact hr
      have e2 : me2 u k 0 = q.2 := by
        show rsM (me1 u k) (meR (me1 u k)) 0 = _
        rw [hr]
        exact (up2_nk (by omega)).trans up1_at
      rw [e2]
      exact hGs k _ _ _ _ _ _ _ hk h3 hr2
    | inr q => exact absurd (by rw [hr]; rfl) c
  · exact (mSe_nx.1 5 (by omega) (by omega)).trans ((me2_k (by omega) (by omega) (by omega)).trans h4)
  · exact (mSe_nx.1 1 (by omega) (by omega)).trans ((me2_k (by omega) (by omega) (by omega)).trans h5)
  · exact (mSe_nx.2 3 (by omega) (by omega)).trans (me2_3.trans h6)
theorem meL_0 {d k : Nat} {u : FL} (h : bM (meR (me1 u k)) = 0) : meL (d + 1) k u = ((false, k), me2 u k) := if_pos h
theorem meL_1 {d k : Nat} {u : FL} (h : ¬ bM (meR (me1 u k)) = 0) (n : nxP (me2 u k) 59) : meL (d + 1) k u = meL d (k + 1) (nxS (me2 u k) 59) := (if_neg h).trans (if_pos n)
theorem meL_2 {d k : Nat} {u : FL} (h : ¬ bM (meR (me1 u k)) = 0) (n : ¬ nxP (me2 u k) 59) : meL (d + 1) k u = ((true, k + 1), nxS (me2 u k) 59) := (if_neg h).trans (if_neg n)
theorem wl_0 {d : Nat} {u : FL} (h : u 7 9 ≤ u 7 10) : wlM (d + 1) u = (true, u) := if_pos h
theorem wl_1 {d : Nat} {u : FL} (h : ¬ u 7 9 ≤ u 7 10) (n : ¬ nxP u 59) : wlM (d + 1) u = (false, nxS u 59) := (if_neg h).trans (if_pos n)
theorem wl_2 {d : Nat} {u : FL} (h : ¬ u 7 9 ≤ u 7 10) (n : nxP u 59) (i : (icR (nxS u 59)).1 = true) : wlM (d + 1) u = wlM d (wl1 u) := (if_neg h).trans ((if_neg (fun z => z n)).trans (if_pos i))
theorem wl_3 {d : Nat} {u : FL} (h : ¬ u 7 9 ≤ u 7 10) (n : nxP u 59) (i : ¬ (icR (nxS u 59)).1 = true) : wlM (d + 1) u = (false, wl1 u) := (if_neg h).trans ((if_neg (fun z => z n)).trans (if_neg i))
/-- what holds where the text is looked through -/
def wlO (md : FL) (k : Nat) (u : FL) : Prop := aOk u ∧ (k : Int) ≤ atI u ∧ mSe (cpI md) u
theorem wlO_s {md u : FL} {k : Nat} (h : wlO md k u) (n : nxP u 59) : wlO md (k + 1) (wl1 u) ∧ k + 1 ≤ 60 := by
  obtain ⟨h1, h2, h3⟩ := h
  have a1 := nx_ok (v := 59) h1
  have a2 := (at_nx h1).2 n
  have a3 : atI (nxS u 59) ≤ atI (wl1 u) := at_ic a1
  have a4 : 0 ≤ atI (wl1 u) ∧ atI (wl1 u) ≤ 60 := at_60 (icR_ok a1)
  exact ⟨⟨icR_ok a1, by omega, h3.tr (mSe_nx.tr mSe_ic)⟩, by omega⟩
theorem meO_0 {G : Nat → MF → Prop} {md u : FL} {k : Nat} (h : wlO md k u) (hG : G 0 (md 0)) : meO G md 0 (up2 (up2 u 7 13 (-1)) 7 10 0) := by
  obtain ⟨h1, h2, h3⟩ := h
  have z : (0 : Int32) ≤ u 7 9 := by
    have q1 := Int32.le_iff_toInt_le.mp h1.2.1
    have q0 := (at_60 h1).1
    have q0 : 0 ≤ (u 7 10).toInt := q0
    exact Int32.le_iff_toInt_le.mpr (by have e : (0 : Int32).toInt = 0 := rfl; omega)
  refine ⟨⟨(by decide : ¬ (0 : Int32) < 0), z, h1.2.2⟩, (by decide : ((0 : Nat) : Int) ≤ (0 : Int32).toInt), ?_, ?_, ?_, ?_⟩
  · have e : up2 (up2 u 7 13 (-1)) 7 10 0 0 = md 0 := (show _ = u 0 from rfl).trans (h3.1 0 (by omega) (by omega))
    rw [e]
    exact hG
  · exact (show up2 (up2 u 7 13 (-1)) 7 10 0 5 = u 5 from rfl).trans (h3.1 5 (by omega) (by omega))
  · exact (show up2 (up2 u 7 13 (-1)) 7 10 0 1 = u 1 from rfl).trans (h3.1 1 (by omega) (by omega))
  · exact (show up2 (up2 u 7 13 (-1)) 7 10 0 7 3 = u 7 3 from rfl).trans (h3.2 3 (by omega) (by omega))
def cmV2 (md : FL) : Int32 := if (cpR md).1 = true then (if (meE md).1.1 = true then nI (meE md).1.2 else 0) else 0
def cmE2 (md : FL) : FL := if (cpR md).1 = true then (if (meE md).1.1 = true then kpM (up2 (meE md).2 7 9 0) else up2 (up1 (up2 (meE md).2 7 9 0) 0 ((meE md).2 1)) 7 19 2) else up2 (up2 (up2 (cpR md).2 7 13 ((cpR md).2 7 10)) 7 9 0) 7 19 1
theorem cm_f {g : GC} {M : HM} {q : Nat} {md u : FL} (h : cpR md = (false, u)) : (.inl (some (.int (cmV2 md)), putD g M q (cmE2 md)) : Rs) = .inl (some (.int 0), putD g M q (up2 (up2 (up2 u 7 13 (u 7 10)) 7 9 0) 7 19 1)) := by
  unfold cmV2 cmE2
  rw [h]
  rfl
theorem cm_t {g : GC} {M : HM} {q : Nat} {md u w : FL} {n : Nat} (h : cpR md = (true, u)) (h2 : meE md = ((true, n), w)) : (.inl (some (.int (cmV2 md)), putD g M q (cmE2 md)) : Rs) = .inl (some (.int (nI n)), putD g M q (kpM (up2 w 7 9 0))) := by
  unfold cmV2 cmE2
  rw [h, h2]
  rfl
theorem cm_x {g : GC} {M : HM} {q : Nat} {md u w : FL} {n : Nat} (h : cpR md = (true, u)) (h2 : meE md = ((false, n), w)) : (.inl (some (.int (cmV2 md)), putD g M q (cmE2 md)) : Rs) = .inl (some (.int 0), putD g M q (up2 (up1 (up2 w 7 9 0) 0 (w 1)) 7 19 2)) := by
  unfold cmV2 cmE2
  rw [h, h2]
  rfl

set_option maxHeartbeats 4000000 in
set_option maxRecDepth 100000 in
theorem c_X6_commands (l : Launch) (hlf : l.stackTraces = false) (g : GC) (M : HM) (q : Nat) (md : FL) (G : Nat → MF → Prop) (hW : MdAt g M q md) (hu : unOk md) (hT : tOk md) (hsg : ∀ k, chOk (md 5 k)) (hG0 : G 0 (md 0)) (hGo : ∀ k f, k ≤ 61 → G k f → mOk f ∧ leOk f) (hGs : ∀ k f v a b d r f2, k < 61 → G k f → coM v a b d f = .inl (r, f2) → G (k + 1) f2) : KM g l yX6_commands cX6_commands 4 (some .int) 9 0 0 [.ref q] M (.inl (some (.int (cmV2 md)), (putD g M q (cmE2 md)))) := by
  refine k_meth hlf (by decide) (Nat.le_of_ble_eq_true rfl) fun p e s m below meth c ls hc hr hnx hM hS hl => ?_
  have hc : Cx g p l s m [.ref q].toArray meth c cX6_commands 4 RX6 := hc
  have hx := hc.1
  have hb := hc.2.1
  have hl : lv_has ls 4 [(0, .ref q)] := hl
  refine lv_aload_n hx hb dX6_commands_0 rfl (lv_at hl 0 rfl) ?_
  refine k_V0 hc [] cw_X6_77 rfl dX6_commands_1 (c_X6_tries l hlf g _ q md hW) hW.o hM hS hl.1 rfl rfl ⟨Nat.le_of_ble_eq_true rfl, Nat.le_of_ble_eq_true rfl⟩ ⟨Nat.le_of_ble_eq_true rfl, Nat.le_of_ble_eq_true rfl⟩ (Nat.le_of_ble_eq_true rfl) (fun H locs hM hS => ?_)
  have hW := MdAt.put (g := g) (M := M) (m := q) (md := (trM md))
  refine lv_aload_n hx hb dX6_commands_4 rfl (lv_at hl 0 rfl) ?_
  refine lv_iconst (v := 0) hx hb dX6_commands_5 (by decide) ?_
  refine pt_X6_166 hc dX6_commands_6 hM hS hW.o rfl rfl (Nat.le_of_ble_eq_true rfl) (fun H locs hM hS => ?_)
  have hM := hR.eq hM (putD_sc hW 10 (v := 0) md_s10)
  have hM := hR.eq hM putD_putD
  have hW := MdAt.put (g := g) (M := M) (m := q) (md := (up2 (trM md) 7 10 0))
  have hM : hR g (putD g M q (cpI md)) H := hM
  have hW := MdAt.put (g := g) (M := M) (m := q) (md := (cpI md))
  have hA0 : aOk (cpI md) := ⟨(by decide : ¬ (0 : Int32) < 0), (show (0 : Int32) ≤ md 7 9 from Int32.not_lt.mp hT.1), hT.2⟩
  refine lv_aload_n hx hb dX6_commands_9 rfl (lv_at hl 0 rfl) ?_
  refine k_V1 (v := .int (bI ((icR (cpI md)).1 = true))) hc [] cw_X6_180 rfl dX6_commands_10 (c_X6_isCommand l hlf g _ q (cpI md) hW hA0 hsg) hW.o hM hS hl.1 rfl rfl ⟨Nat.le_of_ble_eq_true rfl, Nat.le_of_ble_eq_true rfl⟩ ⟨Nat.le_of_ble_eq_true rfl, Nat.le_of_ble_eq_true rfl⟩ (Nat.le_of_ble_eq_true rfl) (fun H locs hM hS => ?_)
  have hM := hR.eq hM putD_putD
  have hW := MdAt.put (g := g) (M := M) (m := q) (md := ((icR (cpI md)).2))
  refine lv_istore_n (lv' := [(1, .int (bI ((icR (cpI md)).1 = true))), (0, .ref q)]) hx hb dX6_commands_13 rfl hl (by decide) rfl (fun ls hl => ?_)
  by_cases b_14 : (icR (cpI md)).1 = true
  · skip
    have hl := lv_chg (lv_sub hl [0, 1] rfl) (bI_t b_14)
    have lp_14 : ∀ (D k : Nat) (u : FL), 61 - k < D → k ≤ 61 → (wlO md k u) → (cpR md = wlM (61 - k) u) → ∀ (ls : Array Slot) (H : Heap) (locs : List Loc), hR g (putD g M q u) H → va_S (gA g) s.heap H locs → lv_has ls 4 [(1, .int 1), (0, .ref q)] → W p l e (rmOf 9 0 0) s m [.ref q].toArray below meth c H locs 0 0 (vx_MQ below (KQ g (.inl (some (.int (cmV2 md)), (putD g M q (cmE2 md))))) (KX g (.inl (some (.int (cmV2 md)), (putD g M q (cmE2 md))))) [.ref q].toArray s 0 0 (gA g)) (F0 m 14 ls []) := by
      intro D
      induction D with
      | zero => intro k u hD; exact absurd hD (Nat.not_lt_zero _)
      | succ D ih_14 =>
        intro k u hD hk ho hq ls H locs hM hS hl
        have hW := MdAt.put (g := g) (M := M) (m := q) (md := u)
        refine lv_iload_n hx hb dX6_commands_14 rfl (lv_at hl 0 rfl) ?_
        refine lv_if_eq (tgt := 54) hx hb dX6_commands_15 (by decide) (fun c_15 => ?_) (fun c_15 => ?_)
        · skip
          exact absurd c_15 (by decide)
        · skip
          refine lv_aload_n hx hb dX6_commands_18 rfl (lv_at hl 1 rfl) ?_
          refine gt_X6_166 hc dX6_commands_19 hM hW.o (v := .int (u 7 10)) rfl ?_
          refine lv_aload_n hx hb dX6_commands_22 rfl (lv_at hl 1 rfl) ?_
          refine gt_X6_163 hc dX6_commands_23 hM hW.o (v := .int (u 7 9)) rfl ?_
          refine lv_icmp_ge (tgt := 54) hx hb dX6_commands_26 (by decide) (fun c_26 => ?_) (fun c_26 => ?_)
          · skip
            have hlt : k < 61 := by have h1 := ho.2.1; have h2 := (at_60 ho.1).2; omega
            have hCR : cpR md = (true, u) := hq.trans (by rw [show 61 - k = (61 - (k + 1)) + 1 by omega]; exact wl_0 c_26)
            refine lv_aload_n hx hb dX6_commands_54 rfl (lv_at hl 1 rfl) ?_
            refine lv_iload_n hx hb dX6_commands_55 rfl (lv_at hl 0 rfl) ?_
            refine lv_if_eq (tgt := 63) hx hb dX6_commands_56 (by decide) (fun c_56 => ?_) (fun c_56 => ?_)
            · skip
              first | exact absurd c_15 c_56 | exact absurd c_56 c_15
            · skip
              refine lv_iconst (v := (-1)) hx hb dX6_commands_59 (by decide) ?_
              refine lv_goto (tgt := 67) hx hb dX6_commands_60 (by decide) ?_
              refine pt_X6_32 hc dX6_commands_67 hM hS hW.o rfl rfl (Nat.le_of_ble_eq_true rfl) (fun H locs hM hS => ?_)
              have hM := hR.eq hM (putD_sc hW 13 (v := (-1)) md_s13)
              have hM := hR.eq hM putD_putD
              have hW := MdAt.put (g := g) (M := M) (m := q) (md := (up2 u 7 13 (-1)))
              refine lv_iload_n hx hb dX6_commands_70 rfl (lv_at hl 0 rfl) ?_
              refine lv_if_ne (tgt := 85) hx hb dX6_commands_71 (by decide) (fun c_71 => ?_) (fun c_71 => ?_)
              · skip
                refine lv_aload_n hx hb dX6_commands_85 rfl (lv_at hl 1 rfl) ?_
                refine lv_iconst (v := 0) hx hb dX6_commands_86 (by decide) ?_
                refine pt_X6_166 hc dX6_commands_87 hM hS hW.o rfl rfl (Nat.le_of_ble_eq_true rfl) (fun H locs hM hS => ?_)
                have hM := hR.eq hM (putD_sc hW 10 (v := 0) md_s10)
                have hM := hR.eq hM putD_putD
                have hW := MdAt.put (g := g) (M := M) (m := q) (md := (up2 (up2 u 7 13 (-1)) 7 10 0))
                have hI2 : meI md = up2 (up2 u 7 13 (-1)) 7 10 0 := by rw [meI, hCR]
                have hm := ho.2.2
                rw [← hI2] at hM
                have hW := MdAt.put (g := g) (M := M) (m := q) (md := (meI md))
                have ho2 : meO G md 0 (meI md) := by rw [hI2]; exact meO_0 ho hG0
                refine lv_iconst (v := 0) hx hb dX6_commands_90 (by decide) ?_
                refine lv_istore_n (lv' := [(2, .int 0), (1, .int 1), (0, .ref q)]) hx hb dX6_commands_91 rfl hl (by decide) rfl (fun ls hl => ?_)
                refine lv_iconst (v := 1) hx hb dX6_commands_92 (by decide) ?_
                refine lv_istore_n (lv' := [(3, .int 1), (2, .int 0), (1, .int 1), (0, .ref q)]) hx hb dX6_commands_93 rfl hl (by decide) rfl (fun ls hl => ?_)
                have lp_94 : ∀ (D k2 : Nat) (w : FL), 61 - k2 < D → k2 ≤ 61 → (meO G md k2 w) → (meE md = meL (61 - k2) k2 w) → ∀ (ls : Array Slot) (H : Heap) (locs : List Loc), hR g (putD g M q w) H → va_S (gA g) s.heap H locs → lv_has ls 4 [(3, .int 1), (2, .int (nI k2)), (0, .ref q)] → W p l e (rmOf 9 0 0) s m [.ref q].toArray below meth c H locs 0 0 (vx_MQ below (KQ g (.inl (some (.int (cmV2 md)), (putD g M q (cmE2 md))))) (KX g (.inl (some (.int (cmV2 md)), (putD g M q (cmE2 md))))) [.ref q].toArray s 0 0 (gA g)) (F0 m 94 ls []) := by
                  intro D
                  induction D with
                  | zero => intro k2 w hD; exact absurd hD (Nat.not_lt_zero _)
                  | succ D ih_94 =>
                    intro k2 w hD hk hw hq2 ls H locs hM hS hl
                    have hW := MdAt.put (g := g) (M := M) (m := q) (md := w)
                    have hlt2 : k2 < 61 := by have h1 := hw.2.1; have h2 := (at_60 hw.1).2; omega
                    refine lv_iload_n hx hb dX6_commands_94 rfl (lv_at hl 0 rfl) ?_
                    refine lv_if_eq (tgt := 142) hx hb dX6_commands_95 (by decide) (fun c_95 => ?_) (fun c_95 => ?_)
                    · skip
                      first | exact absurd c_15 c_95 | exact absurd c_95 c_15
                    · skip
                      refine lv_aload_n hx hb dX6_commands_98 rfl (lv_at hl 2 rfl) ?_
                      refine k_V1 (v := .int (bI ((icR w).1 = true))) hc [] cw_X6_180 rfl dX6_commands_99 (c_X6_isCommand l hlf g _ q w hW hw.1 (by rw [hw.2.2.2.1]; exact hsg)) hW.o hM hS hl.1 rfl rfl ⟨Nat.le_of_ble_eq_true rfl, Nat.le_of_ble_eq_true rfl⟩ ⟨Nat.le_of_ble_eq_true rfl, Nat.le_of_ble_eq_true rfl⟩ (Nat.le_of_ble_eq_true rfl) (fun H locs hM hS => ?_)
                      have hM := hR.eq hM putD_putD
                      have hW := MdAt.put (g := g) (M := M) (m := q) (md := ((icR w).2))
                      refine lv_istore_n (lv' := [(1, .int (bI ((icR w).1 = true))), (3, .int 1), (2, .int (nI k2)), (0, .ref q)]) hx hb dX6_commands_102 rfl hl (by decide) rfl (fun ls hl => ?_)
                      refine lv_aload_n hx hb dX6_commands_103 rfl (lv_at hl 3 rfl) ?_
                      refine lv_iload_n hx hb dX6_commands_104 rfl (lv_at hl 2 rfl) ?_
                      refine pt_X6_39 hc dX6_commands_105 hM hS hW.o rfl rfl (Nat.le_of_ble_eq_true rfl) (fun H locs hM hS => ?_)
                      have hM := hR.eq hM (putD_sc hW 16 (v := (nI k2)) md_s16)
                      have hM := hR.eq hM putD_putD
                      have hW := MdAt.put (g := g) (M := M) (m := q) (md := (up2 ((icR w).2) 7 16 (nI k2)))
                      have hM : hR g (putD g M q (me1 w k2)) H := hM
                      have hW := MdAt.put (g := g) (M := M) (m := q) (md := (me1 w k2))
                      refine lv_aload_n hx hb dX6_commands_108 rfl (lv_at hl 3 rfl) ?_
                      refine k_V1 (v := .int (bM (coM (((me1 w k2) 7 11)) (((me1 w k2) 6) 0) (((me1 w k2) 6) 1) (((me1 w k2) 6) 2) ((me1 w k2) 0)))) hc [] cw_X6_184 rfl dX6_commands_109 (c_X6_carries l hlf g _ q (me1 w k2) hW (by rw [me1_0]; exact (hGo k2 _ (by omega) hw.2.2.1).1) (by rw [me1_0]; exact (hGo k2 _ (by omega) hw.2.2.1).2)) hW.o hM hS hl.1 rfl rfl ⟨Nat.le_of_ble_eq_true rfl, Nat.le_of_ble_eq_true rfl⟩ ⟨Nat.le_of_ble_eq_true rfl, Nat.le_of_ble_eq_true rfl⟩ (Nat.le_of_ble_eq_true rfl) (fun H locs hM hS => ?_)
                      have hM := hR.eq hM putD_putD
                      have hW := MdAt.put (g := g) (M := M) (m := q) (md := (rsM (me1 w k2) (coM ((me1 w k2) 7 11) ((me1 w k2) 6 0) ((me1 w k2) 6 1) ((me1 w k2) 6 2) ((me1 w k2) 0))))
                      have hM : hR g (putD g M q (me2 w k2)) H := hM
                      have hW := MdAt.put (g := g) (M := M) (m := q) (md := (me2 w k2))
                      refine lv_istore_n (lv' := [(1, .int (bM (coM (((me1 w k2) 7 11)) (((me1 w k2) 6) 0) (((me1 w k2) 6) 1) (((me1 w k2) 6) 2) ((me1 w k2) 0)))), (3, .int 1), (2, .int (nI k2)), (0, .ref q)]) hx hb dX6_commands_112 rfl hl (by decide) rfl (fun ls hl => ?_)
                      refine lv_iload_n hx hb dX6_commands_113 rfl (lv_at hl 0 rfl) ?_
                      refine lv_if_eq (tgt := 120) hx hb dX6_commands_114 (by decide) (fun c_114 => ?_) (fun c_114 => ?_)
                      · skip
                        have hCE : meE md = ((false, k2), me2 w k2) := hq2.trans (by rw [show 61 - k2 = (61 - (k2 + 1)) + 1 by omega]; exact meL_0 c_114)
                        refine lv_iload_n hx hb dX6_commands_120 rfl (lv_at hl 0 rfl) ?_
                        refine lv_if_eq (tgt := 137) hx hb dX6_commands_121 (by decide) (fun c_121 => ?_) (fun c_121 => ?_)
                        · skip
                          refine lv_iconst (v := 0) hx hb dX6_commands_137 (by decide) ?_
                          refine lv_istore_n (lv' := [(3, .int 0), (1, .int (bM (coM (((me1 w k2) 7 11)) (((me1 w k2) 6) 0) (((me1 w k2) 6) 1) (((me1 w k2) 6) 2) ((me1 w k2) 0)))), (2, .int (nI k2)), (0, .ref q)]) hx hb dX6_commands_138 rfl hl (by decide) rfl (fun ls hl => ?_)
                          refine lv_goto (tgt := 94) hx hb dX6_commands_139 (by decide) ?_
                          refine lv_iload_n hx hb dX6_commands_94 rfl (lv_at hl 0 rfl) ?_
                          refine lv_if_eq (tgt := 142) hx hb dX6_commands_95 (by decide) (fun c_95 => ?_) (fun c_95 => ?_)
                          · skip
                            refine lv_aload_n hx hb dX6_commands_142 rfl (lv_at hl 3 rfl) ?_
                            refine lv_iconst (v := 0) hx hb dX6_commands_143 (by decide) ?_
                            refine pt_X6_163 hc dX6_commands_144 hM hS hW.o rfl rfl (Nat.le_of_ble_eq_true rfl) (fun H locs hM hS => ?_)
                            have hM := hR.eq hM (putD_sc hW 9 (v := 0) md_s9)
                            have hM := hR.eq hM putD_putD
                            have hW := MdAt.put (g := g) (M := M) (m := q) (md := (up2 (me2 w k2) 7 9 0))
                            refine lv_iload_n hx hb dX6_commands_147 rfl (lv_at hl 1 rfl) ?_
                            refine lv_if_eq (tgt := 157) hx hb dX6_commands_148 (by decide) (fun c_148 => ?_) (fun c_148 => ?_)
                            · skip
                              refine lv_aload_n hx hb dX6_commands_157 rfl (lv_at hl 3 rfl) ?_
                              refine k_V0 hc [] cw_X6_187 rfl dX6_commands_158 (c_X6_comesBack l hlf g _ q (up2 (me2 w k2) 7 9 0) hW) hW.o hM hS hl.1 rfl rfl ⟨Nat.le_of_ble_eq_true rfl, Nat.le_of_ble_eq_true rfl⟩ ⟨Nat.le_of_ble_eq_true rfl, Nat.le_of_ble_eq_true rfl⟩ (Nat.le_of_ble_eq_true rfl) (fun H locs hM hS => ?_)
                              have hM := hR.eq hM putD_putD
                              have hW := MdAt.put (g := g) (M := M) (m := q) (md := (up1 (up2 (me2 w k2) 7 9 0) 0 ((up2 (me2 w k2) 7 9 0) 1)))
                              refine lv_aload_n hx hb dX6_commands_161 rfl (lv_at hl 3 rfl) ?_
                              refine lv_iconst (v := 2) hx hb dX6_commands_162 (by decide) ?_
                              refine k_V1 (v := .int 0) hc [.int 2] cw_X6_61 rfl dX6_commands_163 (c_X6_raises l hlf g _ q (up1 (up2 (me2 w k2) 7 9 0) 0 ((up2 (me2 w k2) 7 9 0) 1)) 2 hW) hW.o hM hS hl.1 rfl rfl ⟨Nat.le_of_ble_eq_true rfl, Nat.le_of_ble_eq_true rfl⟩ ⟨Nat.le_of_ble_eq_true rfl, Nat.le_of_ble_eq_true rfl⟩ (Nat.le_of_ble_eq_true rfl) (fun H locs hM hS => ?_)
                              have hM := hR.eq hM putD_putD
                              have hW := MdAt.put (g := g) (M := M) (m := q) (md := (up2 (up1 (up2 (me2 w k2) 7 9 0) 0 ((up2 (me2 w k2) 7 9 0) 1)) 7 19 2))
                              exact k_iret hc hr dX6_commands_166 hM hS (Nat.le_of_ble_eq_true rfl) (Nat.le_of_ble_eq_true rfl) (by exact cm_x hCR hCE)
                            · skip
                              first | exact absurd c_114 c_148 | exact absurd c_148 c_114
                          · skip
                            exact absurd c_95 (by decide)
                        · skip
                          first | exact absurd c_114 c_121 | exact absurd c_121 c_114
                      · skip
                        have c_114 : ¬ bM (meR (me1 w k2)) = 0 := c_114
                        refine lv_iinc (v := (nI (k2 + 1))) (lv' := [(2, .int (nI (k2 + 1))), (1, .int (bM (coM (((me1 w k2) 7 11)) (((me1 w k2) 6) 0) (((me1 w k2) 6) 1) (((me1 w k2) 6) 2) ((me1 w k2) 0)))), (3, .int 1), (0, .ref q)]) hx hb dX6_commands_117 hl (k := 2) rfl (k_inc1 _) (by decide) rfl (fun ls hl => ?_)
                        refine lv_iload_n hx hb dX6_commands_120 rfl (lv_at hl 1 rfl) ?_
                        refine lv_if_eq (tgt := 137) hx hb dX6_commands_121 (by decide) (fun c_121 => ?_) (fun c_121 => ?_)
                        · skip
                          first | exact absurd c_114 c_121 | exact absurd c_121 c_114
                        · skip
                          refine lv_aload_n hx hb dX6_commands_124 rfl (lv_at hl 3 rfl) ?_
                          refine lv_bipush (v := 59) hx hb dX6_commands_125 (by decide) ?_
                          refine k_V1 (v := .int (bI (nxP (me2 w k2) 59))) hc [.int 59] cw_X6_176 rfl dX6_commands_127 (c_X6_isNext l hlf g _ q (me2 w k2) 59 hW (me2_ok hw.1).1) hW.o hM hS hl.1 rfl rfl ⟨Nat.le_of_ble_eq_true rfl, Nat.le_of_ble_eq_true rfl⟩ ⟨Nat.le_of_ble_eq_true rfl, Nat.le_of_ble_eq_true rfl⟩ (Nat.le_of_ble_eq_true rfl) (fun H locs hM hS => ?_)
                          have hM := hR.eq hM putD_putD
                          have hW := MdAt.put (g := g) (M := M) (m := q) (md := (nxS (me2 w k2) 59))
                          refine lv_if_eq (tgt := 137) hx hb dX6_commands_130 (by decide) (fun c_130 => ?_) (fun c_130 => ?_)
                          · skip
                            have c_130 := bI_eq.mp c_130
                            have hCE : meE md = ((true, k2 + 1), nxS (me2 w k2) 59) := hq2.trans (by rw [show 61 - k2 = (61 - (k2 + 1)) + 1 by omega]; exact meL_2 c_114 c_130)
                            refine lv_iconst (v := 0) hx hb dX6_commands_137 (by decide) ?_
                            refine lv_istore_n (lv' := [(3, .int 0), (2, .int (nI (k2 + 1))), (1, .int (bM (coM (((me1 w k2) 7 11)) (((me1 w k2) 6) 0) (((me1 w k2) 6) 1) (((me1 w k2) 6) 2) ((me1 w k2) 0)))), (0, .ref q)]) hx hb dX6_commands_138 rfl hl (by decide) rfl (fun ls hl => ?_)
                            refine lv_goto (tgt := 94) hx hb dX6_commands_139 (by decide) ?_
                            refine lv_iload_n hx hb dX6_commands_94 rfl (lv_at hl 0 rfl) ?_
                            refine lv_if_eq (tgt := 142) hx hb dX6_commands_95 (by decide) (fun c_95 => ?_) (fun c_95 => ?_)
                            · skip
                              refine lv_aload_n hx hb dX6_commands_142 rfl (lv_at hl 3 rfl) ?_
                              refine lv_iconst (v := 0) hx hb dX6_commands_143 (by decide) ?_
                              refine pt_X6_163 hc dX6_commands_144 hM hS hW.o rfl rfl (Nat.le_of_ble_eq_true rfl) (fun H locs hM hS => ?_)
                              have hM := hR.eq hM (putD_sc hW 9 (v := 0) md_s9)
                              have hM := hR.eq hM putD_putD
                              have hW := MdAt.put (g := g) (M := M) (m := q) (md := (up2 (nxS (me2 w k2) 59) 7 9 0))
                              refine lv_iload_n hx hb dX6_commands_147 rfl (lv_at hl 2 rfl) ?_
                              refine lv_if_eq (tgt := 157) hx hb dX6_commands_148 (by decide) (fun c_148 => ?_) (fun c_148 => ?_)
                              · skip
                                first | exact absurd c_114 c_148 | exact absurd c_148 c_114
                              · skip
                                refine lv_aload_n hx hb dX6_commands_151 rfl (lv_at hl 3 rfl) ?_
                                refine lv_iload_n hx hb dX6_commands_152 rfl (lv_at hl 1 rfl) ?_
                                refine k_V1 (v := .int (nI (k2 + 1))) hc [.int (nI (k2 + 1))] cw_X6_57 rfl dX6_commands_153 (c_X6_keeps l hlf g _ q (up2 (nxS (me2 w k2) 59) 7 9 0) (nI (k2 + 1)) hW (unOk_of hu (((mSe_nx (u := me2 w k2) (v := 59)).2 3 (by omega) (by omega)).trans (me2_3.trans hw.2.2.2.2.2)))) hW.o hM hS hl.1 rfl rfl ⟨Nat.le_of_ble_eq_true rfl, Nat.le_of_ble_eq_true rfl⟩ ⟨Nat.le_of_ble_eq_true rfl, Nat.le_of_ble_eq_true rfl⟩ (Nat.le_of_ble_eq_true rfl) (fun H locs hM hS => ?_)
                                have hM := hR.eq hM putD_putD
                                have hW := MdAt.put (g := g) (M := M) (m := q) (md := (kpM (up2 (nxS (me2 w k2) 59) 7 9 0)))
                                exact k_iret hc hr dX6_commands_156 hM hS (Nat.le_of_ble_eq_true rfl) (Nat.le_of_ble_eq_true rfl) (by exact cm_t hCR hCE)
                            · skip
                              exact absurd c_95 (by decide)
                          · skip
                            have c_130 := bI_ne.mp c_130
                            refine lv_iconst (v := 1) hx hb dX6_commands_133 (by decide) ?_
                            refine lv_goto (tgt := 138) hx hb dX6_commands_134 (by decide) ?_
                            refine lv_istore_n (lv' := [(3, .int 1), (2, .int (nI (k2 + 1))), (1, .int (bM (coM (((me1 w k2) 7 11)) (((me1 w k2) 6) 0) (((me1 w k2) 6) 1) (((me1 w k2) 6) 2) ((me1 w k2) 0)))), (0, .ref q)]) hx hb dX6_commands_138 rfl hl (by decide) rfl (fun ls hl => ?_)
                            refine lv_goto (tgt := 94) hx hb dX6_commands_139 (by decide) ?_
                            exact ih_94 (k2 + 1) (nxS (me2 w k2) 59) (by have := (meO_s hGs hw hlt2 c_114 c_130).2; omega) (by have := (meO_s hGs hw hlt2 c_114 c_130).2; omega) (meO_s hGs hw hlt2 c_114 c_130).1 (hq2.trans (by have := (meO_s hGs hw hlt2 c_114 c_130).2; rw [show 61 - k2 = (61 - (k2 + 1)) + 1 by omega]; exact meL_1 c_114 c_130)) ls _ _ hM hS (lv_sub hl [0, 1, 3] rfl)
                have z_2 : 0 = (nI 0) := rfl
                have hl := lv_chg (lv_sub hl [1, 0, 2, 3] rfl) z_2
                exact lp_94 (61 + 1) 0 (meI md) (by omega) (by omega) ho2 rfl ls _ _ hM hS (lv_sub hl [1, 0, 3] rfl)
              · skip
                first | exact absurd c_15 c_71 | exact absurd c_71 c_15
          · skip
            refine lv_aload_n hx hb dX6_commands_29 rfl (lv_at hl 1 rfl) ?_
            refine lv_bipush (v := 59) hx hb dX6_commands_30 (by decide) ?_
            refine k_V1 (v := .int (bI (nxP u 59))) hc [.int 59] cw_X6_176 rfl dX6_commands_32 (c_X6_isNext l hlf g _ q u 59 hW ho.1) hW.o hM hS hl.1 rfl rfl ⟨Nat.le_of_ble_eq_true rfl, Nat.le_of_ble_eq_true rfl⟩ ⟨Nat.le_of_ble_eq_true rfl, Nat.le_of_ble_eq_true rfl⟩ (Nat.le_of_ble_eq_true rfl) (fun H locs hM hS => ?_)
            have hM := hR.eq hM putD_putD
            have hW := MdAt.put (g := g) (M := M) (m := q) (md := (nxS u 59))
            refine lv_if_eq (tgt := 49) hx hb dX6_commands_35 (by decide) (fun c_35 => ?_) (fun c_35 => ?_)
            · skip
              have c_35 := bI_eq.mp c_35
              have hlt : k < 61 := by have h1 := ho.2.1; have h2 := (at_60 ho.1).2; omega
              have c_35b := c_35
              have hCR : cpR md = (false, (nxS u 59)) := hq.trans (by rw [show 61 - k = (61 - (k + 1)) + 1 by omega]; exact wl_1 c_26 c_35)
              refine lv_iconst (v := 0) hx hb dX6_commands_49 (by decide) ?_
              refine lv_istore_n (lv' := [(1, .int 0), (0, .ref q)]) hx hb dX6_commands_50 rfl hl (by decide) rfl (fun ls hl => ?_)
              refine lv_goto (tgt := 14) hx hb dX6_commands_51 (by decide) ?_
              refine lv_iload_n hx hb dX6_commands_14 rfl (lv_at hl 0 rfl) ?_
              refine lv_if_eq (tgt := 54) hx hb dX6_commands_15 (by decide) (fun c_15 => ?_) (fun c_15 => ?_)
              · skip
                refine lv_aload_n hx hb dX6_commands_54 rfl (lv_at hl 1 rfl) ?_
                refine lv_iload_n hx hb dX6_commands_55 rfl (lv_at hl 0 rfl) ?_
                refine lv_if_eq (tgt := 63) hx hb dX6_commands_56 (by decide) (fun c_56 => ?_) (fun c_56 => ?_)
                · skip
                  refine lv_aload_n hx hb dX6_commands_63 rfl (lv_at hl 1 rfl) ?_
                  refine gt_X6_166 hc dX6_commands_64 hM hW.o (v := .int ((nxS u 59) 7 10)) rfl ?_
                  refine pt_X6_32 hc dX6_commands_67 hM hS hW.o rfl rfl (Nat.le_of_ble_eq_true rfl) (fun H locs hM hS => ?_)
                  have hM := hR.eq hM (putD_sc hW 13 (v := ((nxS u 59) 7 10)) md_s13)
                  have hM := hR.eq hM putD_putD
                  have hW := MdAt.put (g := g) (M := M) (m := q) (md := (up2 (nxS u 59) 7 13 ((nxS u 59) 7 10)))
                  refine lv_iload_n hx hb dX6_commands_70 rfl (lv_at hl 0 rfl) ?_
                  refine lv_if_ne (tgt := 85) hx hb dX6_commands_71 (by decide) (fun c_71 => ?_) (fun c_71 => ?_)
                  · skip
                    first | exact absurd c_15 c_71 | exact absurd c_71 c_15
                  · skip
                    refine lv_aload_n hx hb dX6_commands_74 rfl (lv_at hl 1 rfl) ?_
                    refine lv_iconst (v := 0) hx hb dX6_commands_75 (by decide) ?_
                    refine pt_X6_163 hc dX6_commands_76 hM hS hW.o rfl rfl (Nat.le_of_ble_eq_true rfl) (fun H locs hM hS => ?_)
                    have hM := hR.eq hM (putD_sc hW 9 (v := 0) md_s9)
                    have hM := hR.eq hM putD_putD
                    have hW := MdAt.put (g := g) (M := M) (m := q) (md := (up2 (up2 (nxS u 59) 7 13 ((nxS u 59) 7 10)) 7 9 0))
                    refine lv_aload_n hx hb dX6_commands_79 rfl (lv_at hl 1 rfl) ?_
                    refine lv_iconst (v := 1) hx hb dX6_commands_80 (by decide) ?_
                    refine k_V1 (v := .int 0) hc [.int 1] cw_X6_61 rfl dX6_commands_81 (c_X6_raises l hlf g _ q (up2 (up2 (nxS u 59) 7 13 ((nxS u 59) 7 10)) 7 9 0) 1 hW) hW.o hM hS hl.1 rfl rfl ⟨Nat.le_of_ble_eq_true rfl, Nat.le_of_ble_eq_true rfl⟩ ⟨Nat.le_of_ble_eq_true rfl, Nat.le_of_ble_eq_true rfl⟩ (Nat.le_of_ble_eq_true rfl) (fun H locs hM hS => ?_)
                    have hM := hR.eq hM putD_putD
                    have hW := MdAt.put (g := g) (M := M) (m := q) (md := (up2 (up2 (up2 (nxS u 59) 7 13 ((nxS u 59) 7 10)) 7 9 0) 7 19 1))
                    exact k_iret hc hr dX6_commands_84 hM hS (Nat.le_of_ble_eq_true rfl) (Nat.le_of_ble_eq_true rfl) (by exact cm_f hCR)
                · skip
                  first | exact absurd c_15 c_56 | exact absurd c_56 c_15
              · skip
                exact absurd c_15 (by decide)
            · skip
              have c_35 := bI_ne.mp c_35
              refine lv_aload_n hx hb dX6_commands_38 rfl (lv_at hl 1 rfl) ?_
              refine k_V1 (v := .int (bI ((icR (nxS u 59)).1 = true))) hc [] cw_X6_180 rfl dX6_commands_39 (c_X6_isCommand l hlf g _ q (nxS u 59) hW (nx_ok ho.1) (by rw [(mSe_nx (u := u) (v := 59)).1 5 (by omega) (by omega), ho.2.2.1 5 (by omega) (by omega)]; exact hsg)) hW.o hM hS hl.1 rfl rfl ⟨Nat.le_of_ble_eq_true rfl, Nat.le_of_ble_eq_true rfl⟩ ⟨Nat.le_of_ble_eq_true rfl, Nat.le_of_ble_eq_true rfl⟩ (Nat.le_of_ble_eq_true rfl) (fun H locs hM hS => ?_)
              have hM := hR.eq hM putD_putD
              have hW := MdAt.put (g := g) (M := M) (m := q) (md := ((icR (nxS u 59)).2))
              have hM : hR g (putD g M q (wl1 u)) H := hM
              have hW := MdAt.put (g := g) (M := M) (m := q) (md := (wl1 u))
              refine lv_if_eq (tgt := 49) hx hb dX6_commands_42 (by decide) (fun c_42 => ?_) (fun c_42 => ?_)
              · skip
                have c_42 := bI_eq.mp c_42
                have hlt : k < 61 := by have h1 := ho.2.1; have h2 := (at_60 ho.1).2; omega
                have hCR : cpR md = (false, (wl1 u)) := hq.trans (by rw [show 61 - k = (61 - (k + 1)) + 1 by omega]; exact wl_3 c_26 c_35 c_42)
                refine lv_iconst (v := 0) hx hb dX6_commands_49 (by decide) ?_
                refine lv_istore_n (lv' := [(1, .int 0), (0, .ref q)]) hx hb dX6_commands_50 rfl hl (by decide) rfl (fun ls hl => ?_)
                refine lv_goto (tgt := 14) hx hb dX6_commands_51 (by decide) ?_
                refine lv_iload_n hx hb dX6_commands_14 rfl (lv_at hl 0 rfl) ?_
                refine lv_if_eq (tgt := 54) hx hb dX6_commands_15 (by decide) (fun c_15 => ?_) (fun c_15 => ?_)
                · skip
                  refine lv_aload_n hx hb dX6_commands_54 rfl (lv_at hl 1 rfl) ?_
                  refine lv_iload_n hx hb dX6_commands_55 rfl (lv_at hl 0 rfl) ?_
                  refine lv_if_eq (tgt := 63) hx hb dX6_commands_56 (by decide) (fun c_56 => ?_) (fun c_56 => ?_)
                  · skip
                    refine lv_aload_n hx hb dX6_commands_63 rfl (lv_at hl 1 rfl) ?_
                    refine gt_X6_166 hc dX6_commands_64 hM hW.o (v := .int ((wl1 u) 7 10)) rfl ?_
                    refine pt_X6_32 hc dX6_commands_67 hM hS hW.o rfl rfl (Nat.le_of_ble_eq_true rfl) (fun H locs hM hS => ?_)
                    have hM := hR.eq hM (putD_sc hW 13 (v := ((wl1 u) 7 10)) md_s13)
                    have hM := hR.eq hM putD_putD
                    have hW := MdAt.put (g := g) (M := M) (m := q) (md := (up2 (wl1 u) 7 13 ((wl1 u) 7 10)))
                    refine lv_iload_n hx hb dX6_commands_70 rfl (lv_at hl 0 rfl) ?_
                    refine lv_if_ne (tgt := 85) hx hb dX6_commands_71 (by decide) (fun c_71 => ?_) (fun c_71 => ?_)
                    · skip
                      first | exact absurd c_15 c_71 | exact absurd c_71 c_15
                    · skip
                      refine lv_aload_n hx hb dX6_commands_74 rfl (lv_at hl 1 rfl) ?_
                      refine lv_iconst (v := 0) hx hb dX6_commands_75 (by decide) ?_
                      refine pt_X6_163 hc dX6_commands_76 hM hS hW.o rfl rfl (Nat.le_of_ble_eq_true rfl) (fun H locs hM hS => ?_)
                      have hM := hR.eq hM (putD_sc hW 9 (v := 0) md_s9)
                      have hM := hR.eq hM putD_putD
                      have hW := MdAt.put (g := g) (M := M) (m := q) (md := (up2 (up2 (wl1 u) 7 13 ((wl1 u) 7 10)) 7 9 0))
                      refine lv_aload_n hx hb dX6_commands_79 rfl (lv_at hl 1 rfl) ?_
                      refine lv_iconst (v := 1) hx hb dX6_commands_80 (by decide) ?_
                      refine k_V1 (v := .int 0) hc [.int 1] cw_X6_61 rfl dX6_commands_81 (c_X6_raises l hlf g _ q (up2 (up2 (wl1 u) 7 13 ((wl1 u) 7 10)) 7 9 0) 1 hW) hW.o hM hS hl.1 rfl rfl ⟨Nat.le_of_ble_eq_true rfl, Nat.le_of_ble_eq_true rfl⟩ ⟨Nat.le_of_ble_eq_true rfl, Nat.le_of_ble_eq_true rfl⟩ (Nat.le_of_ble_eq_true rfl) (fun H locs hM hS => ?_)
                      have hM := hR.eq hM putD_putD
                      have hW := MdAt.put (g := g) (M := M) (m := q) (md := (up2 (up2 (up2 (wl1 u) 7 13 ((wl1 u) 7 10)) 7 9 0) 7 19 1))
                      exact k_iret hc hr dX6_commands_84 hM hS (Nat.le_of_ble_eq_true rfl) (Nat.le_of_ble_eq_true rfl) (by exact cm_f hCR)
                  · skip
                    first | exact absurd c_15 c_56 | exact absurd c_56 c_15
                · skip
                  exact absurd c_15 (by decide)
              · skip
                have c_42 := bI_ne.mp c_42
                refine lv_iconst (v := 1) hx hb dX6_commands_45 (by decide) ?_
                refine lv_goto (tgt := 50) hx hb dX6_commands_46 (by decide) ?_
                refine lv_istore_n (lv' := [(1, .int 1), (0, .ref q)]) hx hb dX6_commands_50 rfl hl (by decide) rfl (fun ls hl => ?_)
                refine lv_goto (tgt := 14) hx hb dX6_commands_51 (by decide) ?_
                exact ih_14 (k + 1) (wl1 u) (by have := (wlO_s ho c_35).2; omega) (by have := (wlO_s ho c_35).2; omega) (wlO_s ho c_35).1 (hq.trans (by have := (wlO_s ho c_35).2; rw [show 61 - k = (61 - (k + 1)) + 1 by omega]; exact wl_2 c_26 c_35 c_42)) ls _ _ hM hS (lv_sub hl [0, 1] rfl)
    exact lp_14 (61 + 1) 0 ((icR (cpI md)).2) (by omega) (by omega) ⟨icR_ok hA0, (at_60 (icR_ok hA0)).1, mSe_ic⟩ (if_pos b_14) ls _ _ hM hS (lv_sub hl [0, 1] rfl)
  · skip
    have hl := lv_chg (lv_sub hl [0, 1] rfl) (bI_f b_14)
    refine lv_iload_n hx hb dX6_commands_14 rfl (lv_at hl 0 rfl) ?_
    refine lv_if_eq (tgt := 54) hx hb dX6_commands_15 (by decide) (fun c_15 => ?_) (fun c_15 => ?_)
    · skip
      have hCR : cpR md = (false, ((icR (cpI md)).2)) := if_neg b_14
      refine lv_aload_n hx hb dX6_commands_54 rfl (lv_at hl 1 rfl) ?_
      refine lv_iload_n hx hb dX6_commands_55 rfl (lv_at hl 0 rfl) ?_
      refine lv_if_eq (tgt := 63) hx hb dX6_commands_56 (by decide) (fun c_56 => ?_) (fun c_56 => ?_)
      · skip
        refine lv_aload_n hx hb dX6_commands_63 rfl (lv_at hl 1 rfl) ?_
        refine gt_X6_166 hc dX6_commands_64 hM hW.o (v := .int (((icR (cpI md)).2) 7 10)) rfl ?_
        refine pt_X6_32 hc dX6_commands_67 hM hS hW.o rfl rfl (Nat.le_of_ble_eq_true rfl) (fun H locs hM hS => ?_)
        have hM := hR.eq hM (putD_sc hW 13 (v := (((icR (cpI md)).2) 7 10)) md_s13)
        have hM := hR.eq hM putD_putD
        have hW := MdAt.put (g := g) (M := M) (m := q) (md := (up2 ((icR (cpI md)).2) 7 13 (((icR (cpI md)).2) 7 10)))
        refine lv_iload_n hx hb dX6_commands_70 rfl (lv_at hl 0 rfl) ?_
        refine lv_if_ne (tgt := 85) hx hb dX6_commands_71 (by decide) (fun c_71 => ?_) (fun c_71 => ?_)
        · skip
          first | exact absurd c_15 c_71 | exact absurd c_71 c_15
        · skip
          refine lv_aload_n hx hb dX6_commands_74 rfl (lv_at hl 1 rfl) ?_
          refine lv_iconst (v := 0) hx hb dX6_commands_75 (by decide) ?_
          refine pt_X6_163 hc dX6_commands_76 hM hS hW.o rfl rfl (Nat.le_of_ble_eq_true rfl) (fun H locs hM hS => ?_)
          have hM := hR.eq hM (putD_sc hW 9 (v := 0) md_s9)
          have hM := hR.eq hM putD_putD
          have hW := MdAt.put (g := g) (M := M) (m := q) (md := (up2 (up2 ((icR (cpI md)).2) 7 13 (((icR (cpI md)).2) 7 10)) 7 9 0))
          refine lv_aload_n hx hb dX6_commands_79 rfl (lv_at hl 1 rfl) ?_
          refine lv_iconst (v := 1) hx hb dX6_commands_80 (by decide) ?_
          refine k_V1 (v := .int 0) hc [.int 1] cw_X6_61 rfl dX6_commands_81 (c_X6_raises l hlf g _ q (up2 (up2 ((icR (cpI md)).2) 7 13 (((icR (cpI md)).2) 7 10)) 7 9 0) 1 hW) hW.o hM hS hl.1 rfl rfl ⟨Nat.le_of_ble_eq_true rfl, Nat.le_of_ble_eq_true rfl⟩ ⟨Nat.le_of_ble_eq_true rfl, Nat.le_of_ble_eq_true rfl⟩ (Nat.le_of_ble_eq_true rfl) (fun H locs hM hS => ?_)
          have hM := hR.eq hM putD_putD
          have hW := MdAt.put (g := g) (M := M) (m := q) (md := (up2 (up2 (up2 ((icR (cpI md)).2) 7 13 (((icR (cpI md)).2) 7 10)) 7 9 0) 7 19 1))
          exact k_iret hc hr dX6_commands_84 hM hS (Nat.le_of_ble_eq_true rfl) (Nat.le_of_ble_eq_true rfl) (by exact cm_f hCR)
      · skip
        first | exact absurd c_15 c_56 | exact absurd c_56 c_15
    · skip
      exact absurd c_15 (by decide)
