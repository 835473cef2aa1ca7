/-! the two accounts that are no ints: no NaN -/
def nanP (v : UInt32) : Bool := decide (v &&& 0x7fffffff ≤ 0x7f800000) && (decide (FP.f2d v &&& 0x7fffffffffffffff ≤ 0x7ff0000000000000) && decide (FP.dcmp (FP.f2d v) (FP.f2d v) = some .eq))
def nanQ (v : UInt64) : Bool := decide (v &&& 0x7fffffffffffffff ≤ 0x7ff0000000000000) && decide (FP.dcmp v v = some .eq)
theorem nan32a : ∀ s : Nat, s < 121 → ∀ c : Nat, c < 7 → 0 < c → nanP (FP.fdiv (FP.i2f (nI s)) (FP.i2f (nI c))) = true := by decide +kernel
theorem nan64a : ∀ s : Nat, s < 31 → ∀ c : Nat, c < 31 → 0 < c → nanQ (FP.ddiv (FP.i2d (nI s)) (FP.i2d (nI c))) = true := by decide +kernel
theorem nanP_s {v : UInt32} (h : nanP v = true) : vf_n32 v ∧ vf_n64 (FP.f2d v) ∧ FP.dcmp (FP.f2d v) (FP.f2d v) = some .eq := by
  unfold nanP at h
  rw [Bool.and_eq_true, Bool.and_eq_true, decide_eq_true_eq, decide_eq_true_eq, decide_eq_true_eq] at h
  exact h
theorem nanQ_s {v : UInt64} (h : nanQ v = true) : vf_n64 v ∧ FP.dcmp v v = some .eq := by
  unfold nanQ at h
  rw [Bool.and_eq_true, decide_eq_true_eq, decide_eq_true_eq] at h
  exact h
theorem mean_f {n : Nat} {cs : CS} {md : FL} (h : Rel n cs md) : (md 0 5 = 0 ∧ ¬ 0 < cs 0 8 4) ∨ (¬ md 0 5 = 0 ∧ 0 < cs 0 8 4 ∧ FP.fdiv (FP.i2f (rsum 6 (cs 0 8 5) (cs 0 5))) (FP.i2f (cs 0 8 4)) = FP.fdiv (FP.i2f (itr (thS (md 0)) 0 (md 0 5).toNatClampNeg)) (FP.i2f (md 0 5)) ∧ nanP (FP.fdiv (FP.i2f (itr (thS (md 0)) 0 (md 0 5).toNatClampNeg)) (FP.i2f (md 0 5))) = true) := by
  obtain ⟨ns, np, nh, nc, t, dh, cu, htn, h⟩ := h.1
  have z4 : cs 0 8 4 = nI nc := h.2.1.2.2.2.2.1
  have m4 : md 0 5 = nI nc := h.2.2.1.2.2.2
  have b4 := h.1.2.2.2.1
  obtain ⟨e1, s, hs, e2⟩ := h.thirst
  rcases Nat.eq_zero_or_pos nc with h0 | h0
  · subst h0
    exact Or.inl ⟨m4, by rw [z4]; decide⟩
  · have n0 : ¬ nI nc = 0 := nI_ne0 h0 (by omega)
    refine Or.inr ⟨by rw [m4]; exact n0, by rw [z4]; exact nI_lt (a := 0) h0 (by omega), by rw [e1, z4, ← m4], ?_⟩
    rw [e2, m4]
    exact nan32a s (by omega) nc (by omega) h0
theorem share_f {n : Nat} {cs : CS} {md : FL} (h : Rel n cs md) : (dwM (md 0) 0 = 0 ∧ ¬ 0 < cdF (cs 0) 0) ∨ (¬ dwM (md 0) 0 = 0 ∧ 0 < cdF (cs 0) 0 ∧ FP.ddiv (FP.i2d (cdF (cs 0) 1)) (FP.i2d (cdF (cs 0) 0)) = FP.ddiv (FP.i2d (dwM (md 0) 1)) (FP.i2d (dwM (md 0) 0)) ∧ nanQ (FP.ddiv (FP.i2d (dwM (md 0) 1)) (FP.i2d (dwM (md 0) 0))) = true) := by
  obtain ⟨ns, np, nh, nc, t, dh, cu, htn, h⟩ := h.1
  obtain ⟨e0, c, hc, e1⟩ := h.drawn (o := 0)
  obtain ⟨e2, d, hd, e3⟩ := h.drawn (o := 1)
  rw [e0, e2]
  rcases Nat.eq_zero_or_pos c with h0 | h0
  · subst h0
    exact Or.inl ⟨e1, by rw [e1]; decide⟩
  · have n0 : ¬ nI c = 0 := nI_ne0 h0 (by omega)
    refine Or.inr ⟨by rw [e1]; exact n0, by rw [e1]; exact nI_lt (a := 0) h0 (by omega), rfl, ?_⟩
    rw [e1, e3]
    exact nan64a d (by omega) c (by omega) h0
