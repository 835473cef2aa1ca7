/-! the two accounts that are no ints: no NaN (rows of the whole claim, over FI) -/
def nanP (v : UInt32) : Bool := decide (v &&& 0x7fffffff ≤ 0x7f800000) && decide (FP.fcmp v v = some .eq)
def nanQ (v : UInt64) : Bool := decide (v &&& 0x7fffffffffffffff ≤ 0x7ff0000000000000) && decide (FP.dcmp v v = some .eq)
theorem nan32a : ∀ s : Nat, s < 121 → ∀ c : Nat, c < 7 → 0 < c → nanP (FP.fdiv (FP.i2f (nI s)) (FP.i2f (nI c))) = true := by decide +kernel
theorem nan64a : ∀ s : Nat, s < 31 → ∀ c : Nat, c < 31 → 0 < c → nanQ (FP.ddiv (FP.i2d (nI s)) (FP.i2d (nI c))) = true := by decide +kernel
theorem nan32b : nanP 3296346112 = true := by decide +kernel
theorem nan64b : nanQ 13875388141788987392 = true := by decide +kernel
theorem nanP_s {v : UInt32} (h : nanP v = true) : vf_n32 v ∧ FP.fcmp v v = some .eq := by
  unfold nanP at h
  rw [Bool.and_eq_true, decide_eq_true_eq, decide_eq_true_eq] at h
  exact h
theorem nanQ_s {v : UInt64} (h : nanQ v = true) : vf_n64 v ∧ FP.dcmp v v = some .eq := by
  unfold nanQ at h
  rw [Bool.and_eq_true, decide_eq_true_eq, decide_eq_true_eq] at h
  exact h
section NN
variable {ns np nh nc t dh cu : Nat} {c : CS}
theorem FI.mean (h : FI ns np nh nc t dh cu (c 0)) : (0 < c 0 8 4 → vf_n32 (FP.fdiv (FP.i2f (rsum 6 (c 0 8 5) (c 0 5))) (FP.i2f (c 0 8 4)))) ∧ FP.fcmp (v_meanThirst c) (v_meanThirst c) = some .eq := by
  obtain ⟨s, hs, e2⟩ := h.thirst
  have z4 := h.2.1.2.2.2.2.1
  have b4 := h.1.2.2.2.1
  have key : 0 < c 0 8 4 → nanP (FP.fdiv (FP.i2f (rsum 6 (c 0 8 5) (c 0 5))) (FP.i2f (c 0 8 4))) = true := fun q => by
    rw [z4] at q
    have q := (nI_ltI (a := 0) (by omega) (by omega)).mp q
    rw [e2, z4]
    exact nan32a s (by omega) nc (by omega) q
  refine ⟨fun q => (nanP_s (key q)).1, ?_⟩
  unfold v_meanThirst
  by_cases q : 0 < c 0 8 4
  · rw [if_pos q]; exact (nanP_s (key q)).2
  · rw [if_neg q]; exact (nanP_s nan32b).2
theorem FI.share (h : FI ns np nh nc t dh cu (c 0)) : (0 < cdF (c 0) 0 → vf_n64 (FP.ddiv (FP.i2d (cdF (c 0) 1)) (FP.i2d (cdF (c 0) 0)))) ∧ FP.dcmp (v_rightShare c) (v_rightShare c) = some .eq := by
  obtain ⟨a, ha, e0⟩ := h.drawn 0
  obtain ⟨b, hb, e1⟩ := h.drawn 1
  have key : 0 < cdF (c 0) 0 → nanQ (FP.ddiv (FP.i2d (cdF (c 0) 1)) (FP.i2d (cdF (c 0) 0))) = true := fun q => by
    rw [e0] at q
    have q := (nI_ltI (a := 0) (by omega) (by omega)).mp q
    rw [e0, e1]
    exact nan64a b (by omega) a (by omega) q
  refine ⟨fun q => (nanQ_s (key q)).1, ?_⟩
  unfold v_rightShare
  by_cases q : 0 < cdF (c 0) 0
  · rw [if_pos q]; exact (nanQ_s (key q)).2
  · rw [if_neg q]; exact (nanQ_s nan64b).2
/-! accounts -/
theorem ac_v {k : Nat} (hk : k < 17) (v : Int32) (h : acV c (nI k) = v) : v_account c (nI k) = v := by
  unfold v_account
  rw [if_pos ?_, h]
  have h9 : ∀ k, k < 17 → acOk (nI k) := by decide +kernel
  exact h9 k hk
theorem ac_4 (h : FI ns np nh nc t dh cu (c 0)) : v_account c 4 = nI ns := by
  refine ac_v (k := 4) (by decide) _ (Eq.trans ?_ h.2.1.1)
  unfold acV
  rw [if_neg (by decide), if_neg (by decide), if_neg (by decide), if_neg (by decide), if_pos (by decide)]
theorem ac_5 (h : FI ns np nh nc t dh cu (c 0)) : v_account c 5 = nI np := by
  refine ac_v (k := 5) (by decide) _ (Eq.trans ?_ h.2.1.2.1)
  unfold acV
  rw [if_neg (by decide), if_neg (by decide), if_neg (by decide), if_neg (by decide), if_neg (by decide), if_pos (by decide)]
theorem ac_6 (h : FI ns np nh nc t dh cu (c 0)) : v_account c 6 = nI nh := by
  refine ac_v (k := 6) (by decide) _ (Eq.trans ?_ h.2.1.2.2.2.2.2.2.2.2)
  unfold acV
  rw [if_neg (by decide), if_neg (by decide), if_neg (by decide), if_neg (by decide), if_neg (by decide), if_neg (by decide), if_pos (by decide)]
theorem ac_8 (h : FI ns np nh nc t dh cu (c 0)) : v_account c 8 = nI nc := by
  refine ac_v (k := 8) (by decide) _ (Eq.trans ?_ h.2.1.2.2.2.2.1)
  unfold acV
  rw [if_neg (by decide), if_neg (by decide), if_neg (by decide), if_neg (by decide), if_neg (by decide), if_neg (by decide), if_neg (by decide), if_neg (by decide), if_pos (by decide)]
theorem ac_0 : v_account c 0 = c 0 9 1 := by
  refine ac_v (k := 0) (by decide) _ ?_
  unfold acV
  rw [if_pos (by decide)]
end NN
