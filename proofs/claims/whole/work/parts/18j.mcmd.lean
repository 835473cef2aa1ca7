/-! the reference's commands -/
/-- what the reading of a text keeps -/
def mSe (a b : FL) : Prop := (∀ k, k ≠ 6 → k ≠ 7 → b k = a k) ∧ ∀ j, j ≠ 10 → j ≠ 11 → b 7 j = a 7 j
theorem mSe.rf {a : FL} : mSe a a := ⟨fun _ _ _ => rfl, fun _ _ _ => rfl⟩
theorem mSe.tr {a b c : FL} (h : mSe a b) (k : mSe b c) : mSe a c := ⟨fun i h6 h7 => (k.1 i h6 h7).trans (h.1 i h6 h7), fun j h0 h1 => (k.2 j h0 h1).trans (h.2 j h0 h1)⟩
theorem mSe_at {a : FL} {j : Nat} {v : Int32} (h : j = 10 ∨ j = 11) : mSe a (up2 a 7 j v) := ⟨fun k _ h7 => up2_nk h7, fun i h0 h1 => up2_ni (by omega)⟩
theorem mSe_6 {a : FL} {f : MF} : mSe a (up1 a 6 f) := ⟨fun k h6 _ => up1_ne h6, fun i _ _ => by rw [up1_ne (by omega)]⟩
theorem mSe_nx {u : FL} {v : Int32} : mSe u (nxS u v) := by unfold nxS; split; exact mSe_at (by omega); exact mSe.rf
theorem mSe_dg1 {u : FL} {w : Int32} : mSe u (dg1 u w) := (mSe_at (by omega)).tr mSe_6
theorem mSe_dgL {w : Int32} : ∀ (d : Nat) (u : FL), mSe u (dgL w d u)
  | 0, _ => mSe.rf
  | d + 1, u => by
    unfold dgL
    split
    · exact mSe_dg1.tr (mSe_dgL d _)
    · exact mSe.rf
theorem mSe_dgT {u : FL} {w z : Int32} : mSe u (dgT u w z) := mSe_6.tr (mSe_dgL _ _)
theorem mSe_mp : ∀ (bs : List ((Int32 × Int32) ⊕ Int32)) (u : FL), mSe u (mpL bs u).2
  | [], _ => mSe.rf
  | .inl q :: bs, u => by
    unfold mpL
    split
    · exact mSe_dgT.tr (mSe_mp bs _)
    · exact mSe_dgT
  | .inr v :: bs, u => by
    unfold mpL
    split
    · exact mSe_nx.tr (mSe_mp bs _)
    · exact mSe_nx
theorem mSe_ic1 {u : FL} : mSe u (ic1 u) := (mSe_at (by omega)).tr (mSe_at (by omega))
theorem mSe_ic {u : FL} : mSe u (icR u).2 := by
  unfold icR
  split
  · exact mSe.rf
  · repeat (first | (split; exact mSe_ic1.tr (mSe_mp _ _)) | exact mSe_at (by omega))
/-- how far it has been read -/
abbrev atI (u : FL) : Int := (u 7 10).toInt
theorem at_up {u : FL} (h : aOk u) (ne : ¬ u 7 10 = u 7 9) : (u 7 10 + 1).toInt = atI u + 1 := by
  have q1 := Int32.le_iff_toInt_le.mp h.2.1
  have q2 := Int32.le_iff_toInt_le.mp h.2.2
  have e : (60 : Int32).toInt = 60 := rfl
  obtain ⟨U, hU, eU⟩ := nI_of h.1
  show _ = (u 7 10).toInt + 1
  rw [eU] at q1 ⊢
  rw [nI_toInt hU] at q1
  rw [nI_1, nI_toInt (by omega), nI_toInt hU]
  omega
theorem at_60 {u : FL} (h : aOk u) : 0 ≤ atI u ∧ atI u ≤ 60 := by
  have q1 := Int32.le_iff_toInt_le.mp h.2.1
  have q2 := Int32.le_iff_toInt_le.mp h.2.2
  have e : (60 : Int32).toInt = 60 := rfl
  obtain ⟨U, hU, eU⟩ := nI_of h.1
  refine ⟨?_, show (u 7 10).toInt ≤ 60 by omega⟩
  show 0 ≤ (u 7 10).toInt
  rw [eU, nI_toInt hU]
  omega
theorem at_nx {u : FL} {v : Int32} (h : aOk u) : atI u ≤ atI (nxS u v) ∧ (nxP u v → atI (nxS u v) = atI u + 1) := by
  by_cases c : nxP u v
  · have e : nxS u v = up2 u 7 10 (u 7 10 + 1) := if_pos c
    have e2 : atI (nxS u v) = atI u + 1 := by rw [e]; exact at_up h c.1
    exact ⟨by omega, fun _ => e2⟩
  · have e : nxS u v = u := if_neg c
    rw [e]
    exact ⟨Int.le_refl _, fun z => absurd z c⟩
theorem at_dgL {w : Int32} : ∀ (d : Nat) (u : FL), aOk u → atI u ≤ atI (dgL w d u)
  | 0, _, _ => Int.le_refl _
  | d + 1, u, h => by
    unfold dgL
    split
    · rename_i c
      have h1 : atI (dg1 u w) = atI u + 1 := at_up h (ne_of_nle c.1)
      have h2 := at_dgL (w := w) d (dg1 u w) (dg1_ok h c)
      omega
    · exact Int.le_refl _
theorem at_dgT {u : FL} {w z : Int32} (h : aOk u) : atI u ≤ atI (dgT u w z) := at_dgL (w := w) z.toNatClampNeg (dg0 u w) (aOk_e h rfl rfl)
theorem at_mp : ∀ (bs : List ((Int32 × Int32) ⊕ Int32)) (u : FL), aOk u → atI u ≤ atI (mpL bs u).2
  | [], _, _ => Int.le_refl _
  | .inl q :: bs, u, h => by
    unfold mpL
    split
    · exact Int.le_trans (at_dgT h) (at_mp bs _ (dgT_ok h))
    · exact at_dgT h
  | .inr v :: bs, u, h => by
    unfold mpL
    split
    · exact Int.le_trans (at_nx h).1 (at_mp bs _ (nx_ok h))
    · exact (at_nx h).1
theorem at_ic {u : FL} (h : aOk u) : atI u ≤ atI (icR u).2 := by
  unfold icR
  split
  · exact Int.le_refl _
  · rename_i c
    have h1 : aOk (ic1 u) := aOk_s h c rfl rfl
    have h2 : atI (ic1 u) = atI u + 1 := at_up h c
    repeat (first | (split; exact Int.le_trans (by omega) (at_mp _ _ h1)) | exact Int.le_refl _)
theorem rs_7 {md : FL} {r : MR} {j : Nat} (h4 : j ≠ 14) (h5 : j ≠ 15) (h7 : j ≠ 17) (h8 : j ≠ 18) : rsM md r 7 j = md 7 j := by
  cases r with
  | inl q => exact up2_ni h8
  | inr q =>
    show rfM md q.1 q.2 7 j = _
    unfold rfM
    rw [up2_ni h7, up2_ni h5, up2_ni h4]
theorem rs_k {md : FL} {r : MR} {k : Nat} (h0 : k ≠ 0) (h7 : k ≠ 7) : rsM md r k = md k := by
  cases r with
  | inl q => exact (up2_nk h7).trans (up1_ne h0)
  | inr q =>
    show rfM md q.1 q.2 k = _
    unfold rfM
    rw [up2_nk h7, up2_nk h7, up2_nk h7]
/-- what holds where a command begins -/
def meO (G : Nat → MF → Prop) (md : FL) (k : Nat) (u : FL) : Prop := aOk u ∧ (k : Int) ≤ atI u ∧ G k (u 0) ∧ u 5 = md 5 ∧ u 1 = md 0 ∧ u 7 3 = md 7 3
theorem me1_0 {u : FL} {k : Nat} : me1 u k 0 = u 0 := (up2_nk (by omega)).trans (mSe_ic.1 0 (by omega) (by omega))
theorem me2_ok {u : FL} {k : Nat} (h : aOk u) : aOk (me2 u k) ∧ atI u ≤ atI (me2 u k) := by
  have e1 : me2 u k 7 10 = (icR u).2 7 10 := (rs_7 (by omega) (by omega) (by omega) (by omega)).trans (up2_ni (by omega))
  have e2 : me2 u k 7 9 = (icR u).2 7 9 := (rs_7 (by omega) (by omega) (by omega) (by omega)).trans (up2_ni (by omega))
  refine ⟨aOk_e (icR_ok h) e1 e2, ?_⟩
  show _ ≤ (me2 u k 7 10).toInt
  rw [e1]
  exact at_ic h
theorem me2_k {u : FL} {k j : Nat} (h0 : j ≠ 0) (h6 : j ≠ 6) (h7 : j ≠ 7) : me2 u k j = u j := (rs_k h0 h7).trans ((up2_nk h7).trans (mSe_ic.1 j h6 h7))
theorem me2_3 {u : FL} {k : Nat} : me2 u k 7 3 = u 7 3 := (rs_7 (by omega) (by omega) (by omega) (by omega)).trans ((up2_ni (by omega)).trans (mSe_ic.2 3 (by omega) (by omega)))
theorem meO_s {G : Nat → MF → Prop} {md u : FL} {k : Nat} (hGs : ∀ k f v a b d r f2, k < 61 → G k f → coM v a b d f = .inl (r, f2) → G (k + 1) f2) (h : meO G md k u) (hk : k < 61) (c : ¬ bM (meR (me1 u k)) = 0) (n : nxP (me2 u k) 59) : meO G md (k + 1) (nxS (me2 u k) 59) ∧ k + 1 ≤ 60 := by
  obtain ⟨h1, h2, h3, h4, h5, h6⟩ := h
  have a1 := me2_ok (k := k) h1
  have a2 := (at_nx (v := 59) a1.1).2 n
  have a3 := at_60 (nx_ok (v := 59) a1.1)
  refine ⟨⟨nx_ok a1.1, by omega, ?_, ?_, ?_, ?_⟩, by omega⟩
  · have e : nxS (me2 u k) 59 0 = me2 u k 0 := mSe_nx.1 0 (by omega) (by omega)
    rw [e]
    cases hr : meR (me1 u k) with
    | inl q =>
      have hr2 : coM (me1 u k 7 11) (me1 u k 6 0) (me1 u k 6 1) (me1 u k 6 2) (u 0) = .inl (q.1, q.2) := by rw [← me1_0 (u := u) (k := k)]; exact hr
      have e2 : me2 u k 0 = q.2 := by
        show rsM (me1 u k) (meR (me1 u k)) 0 = _
        rw [hr]
        exact (up2_nk (by omega)).trans up1_at
      rw [e2]
      exact hGs k _ _ _ _ _ _ _ hk h3 hr2
    | inr q => exact absurd (by rw [hr]; rfl) c
  · exact (mSe_nx.1 5 (by omega) (by omega)).trans ((me2_k (by omega) (by omega) (by omega)).trans h4)
  · exact (mSe_nx.1 1 (by omega) (by omega)).trans ((me2_k (by omega) (by omega) (by omega)).trans h5)
  · exact (mSe_nx.2 3 (by omega) (by omega)).trans (me2_3.trans h6)
theorem meL_0 {d k : Nat} {u : FL} (h : bM (meR (me1 u k)) = 0) : meL (d + 1) k u = ((false, k), me2 u k) := if_pos h
theorem meL_1 {d k : Nat} {u : FL} (h : ¬ bM (meR (me1 u k)) = 0) (n : nxP (me2 u k) 59) : meL (d + 1) k u = meL d (k + 1) (nxS (me2 u k) 59) := (if_neg h).trans (if_pos n)
theorem meL_2 {d k : Nat} {u : FL} (h : ¬ bM (meR (me1 u k)) = 0) (n : ¬ nxP (me2 u k) 59) : meL (d + 1) k u = ((true, k + 1), nxS (me2 u k) 59) := (if_neg h).trans (if_neg n)
theorem wl_0 {d : Nat} {u : FL} (h : u 7 9 ≤ u 7 10) : wlM (d + 1) u = (true, u) := if_pos h
theorem wl_1 {d : Nat} {u : FL} (h : ¬ u 7 9 ≤ u 7 10) (n : ¬ nxP u 59) : wlM (d + 1) u = (false, nxS u 59) := (if_neg h).trans (if_pos n)
theorem wl_2 {d : Nat} {u : FL} (h : ¬ u 7 9 ≤ u 7 10) (n : nxP u 59) (i : (icR (nxS u 59)).1 = true) : wlM (d + 1) u = wlM d (wl1 u) := (if_neg h).trans ((if_neg (fun z => z n)).trans (if_pos i))
theorem wl_3 {d : Nat} {u : FL} (h : ¬ u 7 9 ≤ u 7 10) (n : nxP u 59) (i : ¬ (icR (nxS u 59)).1 = true) : wlM (d + 1) u = (false, wl1 u) := (if_neg h).trans ((if_neg (fun z => z n)).trans (if_neg i))
/-- what holds where the text is looked through -/
def wlO (md : FL) (k : Nat) (u : FL) : Prop := aOk u ∧ (k : Int) ≤ atI u ∧ mSe (cpI md) u
theorem wlO_s {md u : FL} {k : Nat} (h : wlO md k u) (n : nxP u 59) : wlO md (k + 1) (wl1 u) ∧ k + 1 ≤ 60 := by
  obtain ⟨h1, h2, h3⟩ := h
  have a1 := nx_ok (v := 59) h1
  have a2 := (at_nx h1).2 n
  have a3 : atI (nxS u 59) ≤ atI (wl1 u) := at_ic a1
  have a4 : 0 ≤ atI (wl1 u) ∧ atI (wl1 u) ≤ 60 := at_60 (icR_ok a1)
  exact ⟨⟨icR_ok a1, by omega, h3.tr (mSe_nx.tr mSe_ic)⟩, by omega⟩
theorem meO_0 {G : Nat → MF → Prop} {md u : FL} {k : Nat} (h : wlO md k u) (hG : G 0 (md 0)) : meO G md 0 (up2 (up2 u 7 13 (-1)) 7 10 0) := by
  obtain ⟨h1, h2, h3⟩ := h
  have z : (0 : Int32) ≤ u 7 9 := by
    have q1 := Int32.le_iff_toInt_le.mp h1.2.1
    have q0 := (at_60 h1).1
    have q0 : 0 ≤ (u 7 10).toInt := q0
    exact Int32.le_iff_toInt_le.mpr (by have e : (0 : Int32).toInt = 0 := rfl; omega)
  refine ⟨⟨(by decide : ¬ (0 : Int32) < 0), z, h1.2.2⟩, (by decide : ((0 : Nat) : Int) ≤ (0 : Int32).toInt), ?_, ?_, ?_, ?_⟩
  · have e : up2 (up2 u 7 13 (-1)) 7 10 0 0 = md 0 := (show _ = u 0 from rfl).trans (h3.1 0 (by omega) (by omega))
    rw [e]
    exact hG
  · exact (show up2 (up2 u 7 13 (-1)) 7 10 0 5 = u 5 from rfl).trans (h3.1 5 (by omega) (by omega))
  · exact (show up2 (up2 u 7 13 (-1)) 7 10 0 1 = u 1 from rfl).trans (h3.1 1 (by omega) (by omega))
  · exact (show up2 (up2 u 7 13 (-1)) 7 10 0 7 3 = u 7 3 from rfl).trans (h3.2 3 (by omega) (by omega))
def cmV2 (md : FL) : Int32 := if (cpR md).1 = true then (if (meE md).1.1 = true then nI (meE md).1.2 else 0) else 0
def cmE2 (md : FL) : FL := if (cpR md).1 = true then (if (meE md).1.1 = true then kpM (up2 (meE md).2 7 9 0) else up2 (up1 (up2 (meE md).2 7 9 0) 0 ((meE md).2 1)) 7 19 2) else up2 (up2 (up2 (cpR md).2 7 13 ((cpR md).2 7 10)) 7 9 0) 7 19 1
theorem cm_f {g : GC} {M : HM} {q : Nat} {md u : FL} (h : cpR md = (false, u)) : (.inl (some (.int (cmV2 md)), putD g M q (cmE2 md)) : Rs) = .inl (some (.int 0), putD g M q (up2 (up2 (up2 u 7 13 (u 7 10)) 7 9 0) 7 19 1)) := by
  unfold cmV2 cmE2
  rw [h]
  rfl
theorem cm_t {g : GC} {M : HM} {q : Nat} {md u w : FL} {n : Nat} (h : cpR md = (true, u)) (h2 : meE md = ((true, n), w)) : (.inl (some (.int (cmV2 md)), putD g M q (cmE2 md)) : Rs) = .inl (some (.int (nI n)), putD g M q (kpM (up2 w 7 9 0))) := by
  unfold cmV2 cmE2
  rw [h, h2]
  rfl
theorem cm_x {g : GC} {M : HM} {q : Nat} {md u w : FL} {n : Nat} (h : cpR md = (true, u)) (h2 : meE md = ((false, n), w)) : (.inl (some (.int (cmV2 md)), putD g M q (cmE2 md)) : Rs) = .inl (some (.int 0), putD g M q (up2 (up1 (up2 w 7 9 0) 0 (w 1)) 7 19 2)) := by
  unfold cmV2 cmE2
  rw [h, h2]
  rfl

