/-! THE LINE on both sides -/
theorem c2I_lo : ∀ x : Nat, x < 128 → c2I (nI x) = nI x := by decide +kernel
theorem chOk_n {x : Nat} (h : x < 128) : chOk (nI x) := by
  rw [← c2I_lo x h]
  exact c2I_ok _
def LnR (C0 C : CS) (U0 U : FL) (L : Nat) : Prop := C 11 3 4 = nI L ∧ U 7 7 = nI L ∧ (∀ k, k < L → C 11 2 k = U 4 k) ∧ lsOk C ∧ (∀ k, k ≠ 11 → C k = C0 k) ∧ C 11 1 = C0 11 1 ∧ (∀ j, j ≠ 4 → C 11 3 j = C0 11 3 j) ∧ (∀ r, r ≠ 4 → r ≠ 7 → U r = U0 r) ∧ ∀ j, j ≠ 7 → U 7 j = U0 7 j
section LN
variable {C0 C : CS} {U0 U : FL} {L : Nat}
theorem LnR.put (h : LnR C0 C U0 U L) (hL : L < 79) {v : Int32} (hv : chOk v) : LnR C0 (lpS C v) U0 (lpM U v) (L + 1) := by
  obtain ⟨h1, h2, h3, h4, h5, h6, h7, h8, h9⟩ := h
  have hc : ¬ C 11 3 4 < 0 ∧ ¬ nI 79 ≤ C 11 3 4 := by rw [h1]; exact ⟨nI_pos (by omega), nI_ge (by omega) (by decide)⟩
  have e : lpS C v = upS (upA C 2 (upd (C 11 2) L v)) 4 (nI (L + 1)) := by
    unfold lpS
    rw [if_pos hc, upA_s (by omega), h1, nI_clamp (by omega), nI_1]
  have em : lpM U v = up1 (up2 U 7 7 (nI (L + 1))) 4 (upd (U 4) L v) := by
    unfold lpM
    rw [h2, nI_clamp (by omega), nI_1]
  rw [e, em]
  have a1 : upS (upA C 2 (upd (C 11 2) L v)) 4 (nI (L + 1)) 11 2 = upd (C 11 2) L v := by rw [upS_r (by omega), upA_at]
  refine ⟨rfl, rfl, fun k hk => ?_, fun k => ?_, fun k hk => ?_, ?_, fun j hj => ?_, fun r r4 r7 => ?_, fun j hj => ?_⟩
  · rw [a1, up1_at]
    by_cases hkL : k = L
    · subst hkL; rw [upd_at, upd_at]
    · rw [upd_ne hkL, upd_ne hkL]; exact h3 k (by omega)
  · rw [a1]
    by_cases hkL : k = L
    · subst hkL; rw [upd_at]; exact hv
    · rw [upd_ne hkL]; exact h4 k
  · rw [upS_f hk, upA_f hk]; exact h5 k hk
  · rw [upS_r (by omega), upA_r (by omega)]; exact h6
  · rw [upS_s hj, upA_s (by omega)]; exact h7 j hj
  · rw [up1_ne r4, up2_nk r7]; exact h8 r r4 r7
  · rw [up1_ne (by omega), up2_ni hj]; exact h9 j hj
theorem LnR.num (h : LnR C0 C U0 U L) {a : Nat} (ha : a < 100) (hL : L + 2 ≤ 79) : ∃ L', L' ≤ L + 2 ∧ (a < 10 → L' = L + 1) ∧ L < L' ∧ LnR C0 (lnS C (nI a)) U0 (lnM U (nI a)) L' := by
  have d1 : nI a / 10 - nI a / 10 / 10 * 10 = nI (a / 10) := by
    rw [show (10 : Int32) = nI 10 from rfl, nI_div (by omega) (by decide), nI_div (by omega) (by decide), nI_mul, nI_sub (by omega)]
    congr 1
    omega
  have d0 : nI a - nI a / 10 * 10 = nI (a % 10) := by
    rw [show (10 : Int32) = nI 10 from rfl, nI_div (by omega) (by decide), nI_mul, nI_sub (by omega)]
    congr 1
    omega
  have c1 : c2I (48 + (nI a / 10 - nI a / 10 / 10 * 10)) = 48 + (nI a / 10 - nI a / 10 / 10 * 10) := by
    rw [d1, show (48 : Int32) = nI 48 from rfl, nI_add]
    exact c2I_lo _ (by omega)
  have c0 : c2I (48 + (nI a - nI a / 10 * 10)) = 48 + (nI a - nI a / 10 * 10) := by
    rw [d0, show (48 : Int32) = nI 48 from rfl, nI_add]
    exact c2I_lo _ (by omega)
  have k1 : chOk (48 + (nI a / 10 - nI a / 10 / 10 * 10)) := by rw [← c1]; exact c2I_ok _
  have k0 : chOk (48 + (nI a - nI a / 10 * 10)) := by rw [← c0]; exact c2I_ok _
  unfold lnS lnM
  rw [c1, c0]
  by_cases hq : a < 10
  · rw [if_pos (show nI a < 10 from nI_lt (b := 10) hq (by decide)), if_pos (show nI a ≤ 9 from nI_le (b := 9) (by omega) (by decide))]
    exact ⟨L + 1, by omega, fun _ => rfl, by omega, h.put (by omega) k0⟩
  · rw [if_neg (show ¬ nI a < 10 from nI_nlt (b := 10) (by omega) (by omega)), if_neg (show ¬ nI a ≤ 9 from nI_ge (a := 9) (by omega) (by omega))]
    exact ⟨L + 2, by omega, fun q => absurd q hq, by omega, (h.put (by omega) k1).put (by omega) k0⟩
theorem LnR.pk1 (h : LnR C0 C U0 U L) (hL : L < 79) : ∃ L', L ≤ L' ∧ L' ≤ L + 1 ∧ (L = 0 → L' = 0) ∧ LnR C0 (lk1 C) U0 (lkA U) L' := by
  unfold lk1 lkA
  rw [h.1, h.2.1]
  rcases Nat.eq_zero_or_pos L with h0 | h0
  · rw [h0, if_pos (show nI 0 ≤ 0 by decide), if_pos (show nI 0 ≤ 0 by decide)]
    exact ⟨0, by omega, by omega, fun _ => rfl, h0 ▸ h⟩
  · rw [if_neg (nI_nle h0 (by omega)), if_neg (nI_nle h0 (by omega))]
    exact ⟨L + 1, by omega, by omega, fun q => by omega, h.put hL (chOk_n (x := 32) (by decide))⟩
theorem LnR.pk (h : LnR C0 C U0 U L) {s d b : Nat} (hs : s < 10) (hd : d < 100) (hb : b < 100) (hL : L + 8 ≤ 79 ∨ L = 0) : ∃ L', L' ≤ L + 8 ∧ (L = 0 → L' ≤ 7) ∧ 0 < L' ∧ LnR C0 (lkS C (nI s) (nI d) (nI d - nI b)) U0 (lkM U (nI s) (nI d) (nI d - nI b)) L' := by
  obtain ⟨L1, a1, a2, a3, k1⟩ := h.pk1 (by omega)
  obtain ⟨L2, b1, b2, b3, k2⟩ := k1.num (a := s) (by omega) (by omega)
  have k3 := k2.put (v := 64) (by have := b2 hs; omega) (chOk_n (x := 64) (by decide))
  obtain ⟨L4, c1, c2, c3, k4⟩ := k3.num (a := d) hd (by have := b2 hs; omega)
  have hb2 := b2 hs
  unfold lkS lkM
  have et : nI d - nI b = 0 ↔ d = b := (sub_n (by omega) (by omega)).2
  by_cases h0 : d = b
  · rw [if_pos (et.mpr h0), if_pos (et.mpr h0)]
    exact ⟨L4, by omega, fun q => by have := a3 q; omega, by omega, k4⟩
  · rw [if_neg (fun q => h0 (et.mp q)), if_neg (fun q => h0 (et.mp q)), absI_n (by omega) (by omega)]
    have hsg : chOk (if nI d - nI b ≤ 0 then 45 else 43) := by
      split
      · exact chOk_n (x := 45) (by decide)
      · exact chOk_n (x := 43) (by decide)
    have k5 := k4.put (by rcases hL with q | q; omega; have := a3 q; omega) hsg
    obtain ⟨L6, e1, e2, e3, k6⟩ := k5.num (a := dsN d b) (by unfold dsN; omega) (by rcases hL with q | q; omega; have := a3 q; omega)
    exact ⟨L6, by omega, fun q => by have := a3 q; omega, by omega, k6⟩
end LN
theorem itr_5 {α : Type} {st : Nat → α → α} {a : α} : itr st a 5 = st 4 (st 3 (st 2 (st 1 (st 0 a)))) := rfl
theorem lw_5 {C : CS} : lwS blB C 5 = lpS (lpS (lpS (lpS (lpS C (chI blB 0)) (chI blB 1)) (chI blB 2)) (chI blB 3)) (chI blB 4) := by
  unfold lwS
  rw [itr_5]
theorem bk_s {d k : Nat} {U : FL} (h : U 7 7 = nI k) : bkM (d + 1) k U = bkM d (k + 1) (lpM U (chI blB k)) := by
  rw [bkM, if_pos h]
theorem LnR.blank {C0 C : CS} {U0 U : FL} (h : LnR C0 C U0 U 0) : LnR C0 (lwS blB C 5) U0 (bkM 5 0 U) 5 := by
  have s1 := h.put (v := chI blB 0) (by omega) (chOk_n (x := 98) (by decide))
  have s2 := s1.put (v := chI blB 1) (by omega) (chOk_n (x := 108) (by decide))
  have s3 := s2.put (v := chI blB 2) (by omega) (chOk_n (x := 97) (by decide))
  have s4 := s3.put (v := chI blB 3) (by omega) (chOk_n (x := 110) (by decide))
  have s5 := s4.put (v := chI blB 4) (by omega) (chOk_n (x := 107) (by decide))
  rw [lw_5, bk_s h.2.1, bk_s s1.2.1, bk_s s2.2.1, bk_s s3.2.1, bk_s s4.2.1]
  exact s5
theorem FP.vok {ns np nh nc t dh cu : Nat} {fl : FL} {f : MF} (h : FP ns np nh nc t dh cu fl f) {q : Nat} (hq : q < nh) : vOk f (nI q) := by
  intro k hk
  obtain ⟨b1, b2, b3, -⟩ := h.1
  by_cases hkn : k < ns
  · obtain ⟨a, ha, e1, e2⟩ := h.pD hkn hq
    obtain ⟨b, hb, e3, e4⟩ := h.pS hkn
    obtain ⟨q1, q2, q3⟩ := m1_iff ha
    by_cases h0 : a = 0
    · exact Or.inl (by rw [e2]; exact fun q9 => q2.mp q9 h0)
    · exact Or.inr ⟨a - 1, b, by omega, hb, by rw [e2]; exact nI_sub (b := 1) (by omega), e4⟩
  · refine Or.inl ?_
    obtain ⟨-, -, -, -, -, -, -, -, -, -, ⟨hD1, hD2⟩, -⟩ := h
    obtain ⟨a, ha, e1, e2⟩ := hD1 q hq k hk
    have e3 := hD2 q (by omega) k hk (Or.inr (by omega))
    have h0 : a = 0 := (m1_iff ha).1.mp (e1.symm.trans e3)
    rw [mD_k hk (by omega), e2, h0]
    decide
theorem sim_line {n : Nat} {cs : CS} {md : FL} (h : Rel n cs md) {i : Int32} : (¬ hasSh (cs 0) i ∧ ¬ inB i 0 (md 0 4 - 1)) ∨ (hasSh (cs 0) i ∧ inB i 0 (md 0 4 - 1) ∧ vOk (md 0) i ∧ li2 cs i 11 3 4 = lmE md i 7 7 ∧ Rel n (li2 cs i) (lmE md i) ∧ lmE md i 7 19 = 0) := by
  obtain ⟨h0, h1, h2, h3, ⟨L0, l1, l2, l3, l4, l5⟩, h5⟩ := h
  have h0' := h0
  obtain ⟨ns, np, nh, nc, t, dh, cu, htn, h⟩ := h0
  by_cases hi : hasSh (cs 0) i
  · obtain ⟨q, hq, rfl⟩ := h.iH.mp hi
    have z0 : cs 0 8 0 = nI ns := h.2.1.1
    have m1 : md 0 2 = nI ns := h.2.2.1.1
    have b1 := h.1.1
    have hst : LnR cs (upS cs 4 0) (up2 md 7 19 0) (up2 (up2 md 7 19 0) 7 7 0) 0 := ⟨rfl, rfl, fun k hk => absurd hk (by omega), l5, fun k hk => upS_f hk, upS_r (by omega), fun j hj => upS_s hj, fun r r4 r7 => up2_nk r7, fun j hj => up2_ni hj⟩
    have hl := itr_rel (st := liS (nI q)) (st' := lmS (md 0) (nI q)) (a := upS cs 4 0) (b := up2 (up2 md 7 19 0) 7 7 0) (R := fun k C U => ∃ L, (L = 0 ∨ L + 1 ≤ 8 * k) ∧ LnR cs C (up2 md 7 19 0) U L) ⟨0, Or.inl rfl, hst⟩ ns (fun k C U hk hR => by
      obtain ⟨L, r1, r2⟩ := hR
      unfold liS lmS
      have e0 : C 0 = cs 0 := r2.2.2.2.2.1 0 (by omega)
      obtain ⟨a, ha, e1, e2⟩ := h.pD hk hq
      obtain ⟨b, hb, e3, e4⟩ := h.pS hk
      obtain ⟨q1, q2, q3⟩ := m1_iff ha
      rw [e0, e1, e2, e3, e4]
      by_cases ha0 : a = 0
      · rw [if_pos (q1.mpr ha0), if_pos (fun q9 => q2.mp q9 ha0)]
        exact ⟨L, r1.imp id (fun q => by omega), r2⟩
      · rw [if_neg (fun q9 => ha0 (q1.mp q9)), if_neg (fun q9 => q9 (q2.mpr ha0)), show nI a - 1 = nI (a - 1) from nI_sub (b := 1) (by omega)]
        obtain ⟨L', p1, p2, p3, p4⟩ := r2.pk (s := k) (d := a - 1) (b := b) (by omega) (by omega) hb (r1.elim Or.inr (fun q => Or.inl (by omega)))
        refine ⟨L', Or.inr ?_, p4⟩
        rcases r1 with r1 | r1
        · have := p2 r1; omega
        · omega)
    obtain ⟨L, r1, r2⟩ := hl
    have ec : li1 cs (nI q) = itr (liS (nI q)) (upS cs 4 0) ns := by
      unfold li1
      rw [z0, nI_clamp (by omega)]
    have em : lmE md (nI q) = bkM 5 0 (itr (lmS (md 0) (nI q)) (up2 (up2 md 7 19 0) 7 7 0) ns) := by
      unfold lmE
      rw [m1, nI_clamp (by omega)]
    rw [← ec] at r2
    generalize itr (lmS (md 0) (nI q)) (up2 (up2 md 7 19 0) 7 7 0) ns = U at *
    have hend : ∃ L', L' ≤ 79 ∧ LnR cs (li2 cs (nI q)) (up2 md 7 19 0) (lmE md (nI q)) L' := by
      unfold li2
      rw [em]
      generalize li1 cs (nI q) = C at *
      by_cases hL : L = 0
      · subst hL
        rw [if_pos (show C 11 3 4 = 0 from r2.1)]
        exact ⟨5, by omega, r2.blank⟩
      · have n0 : ¬ nI L = 0 := nI_ne0 (by omega) (by omega)
        have e5 : bkM 5 0 U = U := by
          show (if U 7 7 = nI 0 then bkM 4 1 (lpM U (chI blB 0)) else U) = _
          rw [if_neg (by rw [r2.2.1]; exact n0)]
        rw [if_neg (show ¬ C 11 3 4 = 0 from fun q9 => n0 (r2.1.symm.trans q9)), e5]
        exact ⟨L, by rcases r1 with q | q <;> omega, r2⟩
    obtain ⟨L', p1, p2, p3, p4, p5, p6, p7, p8, p9, p10⟩ := hend
    refine Or.inr ⟨hi, h.ijH.mp hi, h.vok hq, by rw [p2, p3], ⟨?_, ?_, ?_, ?_, ⟨L', p1, p2, p3, p4, p5⟩, ?_⟩, p10 19 (by omega)⟩
    · rw [p6 0 (by omega), p9 0 (by omega) (by omega)]
      exact h0'
    · exact h1.of (fun k hk => p6 _ (by omega)) (p8 5 (by omega)) (p8 6 (by omega)) (p9 2 (by omega) (by omega)) (p10 3 (by omega))
    · exact h2.of (p6 2 (by omega)) (p8 7 (by omega)) (p9 3 (by omega) (by omega)) (p10 5 (by omega))
    · exact h3.of p7 (p8 1 (by omega)) (p9 5 (by omega) (by omega)) (p10 9 (by omega))
    · exact h5.of (p8 8 (by omega)) (p8 10 (by omega)) (p8 11 (by omega)) (p8 12 (by omega)) (p10 13 (by omega)) (p10 14 (by omega)) (p10 15 (by omega)) (p10 17 (by omega))
  · exact Or.inl ⟨hi, fun q => hi (h.ijH.mpr q)⟩
theorem c2I_id {x : Int32} (h : chOk x) : c2I x = x := by
  have h1 : x.toUInt32.toUInt16.toUInt32.toInt32 = x := Value.int.inj h
  unfold c2I
  rw [← h1]
  congr 1
  apply UInt32.toNat_inj.mp
  simp
theorem sim_char {n : Nat} {cs : CS} {md : FL} (h : Rel n cs md) {i : Int32} : lsOk cs ∧ cs 11 3 4 ≤ nI 79 ∧ cOk (md 7 7) 100 ∧ ((¬ i < 0 ∧ i < cs 11 3 4) ↔ inB i 0 (md 7 7 - 1)) ∧ (inB i 0 (md 7 7 - 1) → cs 11 2 i.toNatClampNeg = c2I (md 4 i.toNatClampNeg)) := by
  obtain ⟨L, l1, l2, l3, l4, l5⟩ := h.2.2.2.2.1
  rw [l2, l3]
  have hin := inB_iff (i := i) (n := L) (by omega)
  refine ⟨l5, nI_le l1 (by decide), ⟨nI_pos (by omega), nI_le (b := 100) (by omega) (by decide)⟩, ?_, fun hq => ?_⟩
  · rw [hin]
    constructor
    · intro q
      obtain ⟨j, hj, rfl⟩ := nI_of q.1
      refine ⟨j, ?_, rfl⟩
      rcases Nat.lt_or_ge j L with q1 | q1
      · exact q1
      · exact absurd q.2 (nI_nlt q1 hj)
    · rintro ⟨k, hk, rfl⟩
      exact ⟨nI_pos (by omega), nI_lt hk (by omega)⟩
  · obtain ⟨k, hk, rfl⟩ := hin.mp hq
    rw [nI_clamp (by omega), ← l4 k hk, c2I_id (l5 k)]
