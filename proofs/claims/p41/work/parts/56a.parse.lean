/-! the two texts that the law has refused -/
def sgB (b : Nat → Int32) (L p : Nat) : Int32 := if p < L then b p else 32
def Tx (b : Nat → Int32) (L p : Nat) (c : CS) : Prop := c 11 3 1 = nI L ∧ (∀ k, k < L → c 11 1 k = b k) ∧ c 11 3 2 = nI p ∧ L ≤ 60 ∧ p ≤ L
section TXS
variable {b : Nat → Int32} {L p d : Nat} {c : CS} {v : Int32}
theorem Tx.sg (h : Tx b L p c) : sgH c = sgB b L p := by
  obtain ⟨h1, h2, h3, h4, h5⟩ := h
  unfold sgH sgB
  by_cases hp : p < L
  · rw [if_pos ⟨by rw [h3]; exact nI_pos (by omega), by rw [h1, h3]; exact nI_ge hp (by omega), by rw [h3]; exact nI_ge (by omega) (by decide)⟩, if_pos hp, h3, nI_clamp (by omega)]
    exact h2 p hp
  · rw [if_neg hp, if_neg]
    rintro ⟨-, q, -⟩
    exact q (by rw [h1, h3]; exact nI_le (by omega) (by omega))
theorem Tx.go (h : Tx b L p c) (hp : p < L) : Tx b L (p + 1) (upS c 2 (nI (p + 1))) :=
  ⟨by rw [upS_s (by omega)]; exact h.1, fun k hk => by rw [upS_r (by omega)]; exact h.2.1 k hk, by unfold upS; rw [upC_at]; exact up2_at, h.2.2.2.1, hp⟩
theorem Tx.rs (h : Tx b L p c) (hp : p < L) (e : b p = v) : sgH c = v ∧ rsS c v = upS c 2 (nI (p + 1)) := by
  have h1 : sgH c = v := by rw [h.sg]; unfold sgB; rw [if_pos hp]; exact e
  refine ⟨h1, ?_⟩
  unfold rsS
  rw [if_pos h1, h.2.2.1, nI_1]
theorem dg_d : ∀ d : Nat, d < 10 → (¬ nI (48 + d) < 48 ∧ nI (48 + d) ≤ 57) ∧ nI (48 + d) - 48 = nI d ∧ ¬ nI d = -1 := by decide +kernel
theorem Tx.dg1 (h : Tx b L p c) (hp : p < L) (hd : d < 10) (e : b p = nI (48 + d)) : dgV c = nI d ∧ dgS c = upS c 2 (nI (p + 1)) := by
  have h1 : sgH c = nI (48 + d) := by rw [h.sg]; unfold sgB; rw [if_pos hp]; exact e
  obtain ⟨q1, q2, -⟩ := dg_d d hd
  have hP : dgP c := by
    show ¬ sgH c < 48 ∧ sgH c ≤ 57
    rw [h1]
    exact q1
  unfold dgV dgS
  rw [if_pos hP, if_pos hP, h1, q2, h.2.2.1, nI_1]
  exact ⟨rfl, rfl⟩
theorem Tx.dg0 (h : Tx b L p c) (hn : ¬ (¬ sgB b L p < 48 ∧ sgB b L p ≤ 57)) : dgV c = -1 ∧ dgS c = c := by
  have hP : ¬ dgP c := by
    show ¬ (¬ sgH c < 48 ∧ sgH c ≤ 57)
    rw [h.sg]
    exact hn
  unfold dgV dgS
  rw [if_neg hP, if_neg hP]
  exact ⟨rfl, rfl⟩
theorem Tx.un (h : Tx b L p c) {z : Int32} {f : Nat → Int32} : Tx b L p (upN c z f) := by
  refine ⟨?_, fun k hk => h.2.1 k hk, ?_, h.2.2.2⟩
  · rw [show upN c z f 11 3 1 = c 11 3 1 by unfold upN; rw [upC_at, up2_ni (by omega), up1_ne (by omega)]]
    exact h.1
  · rw [show upN c z f 11 3 2 = c 11 3 2 by unfold upN; rw [upC_at, up2_ni (by omega), up1_ne (by omega)]]
    exact h.2.2.1
theorem Tx.up (h : Tx b L p c) {j : Nat} (h1 : j ≠ 1) (h2 : j ≠ 2) : Tx b L p (upS c j v) :=
  ⟨by rw [upS_s (by omega)]; exact h.1, fun k hk => by rw [upS_r (by omega)]; exact h.2.1 k hk, by rw [upS_s (by omega)]; exact h.2.2.1, h.2.2.2⟩
theorem Tx.rc0 (h : Tx b L p c) : Tx b L p (rc0 c) ∧ rc0 c 11 3 3 = sgB b L p ∧ rc0 c 11 3 0 = 0 := by
  refine ⟨h.un.up (by omega) (by omega), ?_, ?_⟩
  · show upS (upN c 0 (c 11 0)) 3 _ 11 3 3 = _
    unfold upS
    rw [upC_at, up2_at]
    exact h.un.sg
  · show upS (upN c 0 (c 11 0)) 3 _ 11 3 0 = _
    rw [upS_s (by omega)]
    unfold upN
    rw [upC_at, up2_at]
theorem rcL_t {b : List Int32} {d k : Nat} {cs : CS} (h : rpP cs (chI b k)) : rcL b (d + 1) k cs = rcL b d (k + 1) (rpS cs (chI b k)) := by
  rw [rcL, if_pos h]
theorem un_0 {z : Int32} {f : Nat → Int32} : upN c z f 11 3 0 = z := by
  unfold upN
  rw [upC_at, up2_at]
theorem un_f {z : Int32} {f : Nat → Int32} : upN c z f 11 0 = f := by
  unfold upN
  rw [upC_at, up2_nk (by omega), up1_at]
/-- w and a sign -/
theorem wd (h : Tx b L p c) (hp : p + 1 < L) (h0 : b p = 119) (h1 : b (p + 1) = nI (48 + d)) (hd : d < 10) (h2 : ¬ (¬ sgB b L (p + 2) < 48 ∧ sgB b L (p + 2) ≤ 57)) : rcP c ∧ Tx b L (p + 2) (rcS c) ∧ rcS c 11 3 3 = 119 ∧ gN (rcS c) 0 = nI d := by
  obtain ⟨t0, e3, e0⟩ := h.rc0
  have e3 : rc0 c 11 3 3 = 119 := by rw [e3]; unfold sgB; rw [if_pos (by omega)]; exact h0
  have eB : rcB c = [119, 50] := by
    show fmB (rc0 c 11 3 3) = _
    rw [e3]
    rfl
  obtain ⟨a1, a2⟩ := t0.rs (by omega) h0
  have t1 := t0.go (by omega)
  have t2 := t1.go (by omega)
  obtain ⟨b1, b2⟩ := t1.dg1 (by omega) hd h1
  obtain ⟨c1, c2⟩ := t2.dg0 h2
  have hd1 := (dg_d d hd).2.2
  have r0 : rpS (rc0 c) 119 = upS (rc0 c) 2 (nI (p + 1)) := by
    unfold rpS
    rw [if_neg (by decide)]
    exact a2
  have hz : upS (upS (rc0 c) 2 (nI (p + 1))) 2 (nI (p + 1 + 1)) 11 3 0 = 0 := by rw [upS_s (by omega), upS_s (by omega)]; exact e0
  have r1 : rpS (upS (rc0 c) 2 (nI (p + 1))) 50 = addS (upS (upS (rc0 c) 2 (nI (p + 1))) 2 (nI (p + 1 + 1))) (nI d) := by
    unfold rpS
    rw [if_pos (Or.inr rfl), show bI ((50 : Int32) = 50) = 1 from bI_t rfl]
    unfold rnS
    rw [if_neg (by rw [b1]; exact hd1), if_neg (by decide), b2, c2, if_pos c1, b1]
  have hL : rcL (rcB c) (rcB c).length 0 (rc0 c) = (true, addS (upS (upS (rc0 c) 2 (nI (p + 1))) 2 (nI (p + 1 + 1))) (nI d)) := by
    rw [eB]
    show rcL [119, 50] 2 0 (rc0 c) = _
    rw [rcL_t (show rpP (rc0 c) (chI [119, 50] 0) from Or.inr ⟨by decide, a1⟩), show chI [119, 50] 0 = 119 from rfl, r0]
    rw [rcL_t (show rpP _ (chI [119, 50] (0 + 1)) from Or.inl ⟨Or.inr rfl, fun q => hd1 (b1.symm.trans q)⟩), show chI [119, 50] (0 + 1) = 50 from rfl, r1]
    rfl
  have eS : rcS c = addS (upS (upS (rc0 c) 2 (nI (p + 1))) 2 (nI (p + 1 + 1))) (nI d) := by
    unfold rcS
    rw [hL]
  refine ⟨⟨by rw [hL], by rw [eB]; decide⟩, ?_, ?_, ?_⟩
  · rw [eS]
    exact t2.un
  · rw [eS, k3_ad, upS_s (by omega), upS_s (by omega)]
    exact e3
  · rw [eS]
    unfold addS
    rw [hz, if_pos (by decide), if_pos (by decide)]
    show rget 3 (upN _ _ _ 11 3 0) (upN _ _ _ 11 0) 0 = _
    rw [un_0, un_f]
    exact (rget_k (k := 0) (n := 1) (by omega) (by omega) (by decide)).trans upd_at
end TXS
def txQ : Nat → Int32 := chI [113]
def txW : Nat → Int32 := chI [119, 49, 59, 119, 49, 59, 119, 48]
theorem txS_T {b : Nat → Int32} {c : CS} (h1 : c 11 3 1 = 0) {L : Nat} (hL : L ≤ 60) : txS b c L 11 3 1 = nI L ∧ (∀ k, k < L → txS b c L 11 1 k = b k) := by
  obtain ⟨q1, -, -, -, -, q6, -⟩ := txS_f (b := b) h1 L hL
  exact ⟨q1, q6⟩
theorem txS_T2 {b : Nat → Int32} {c : CS} (h1 : c 11 3 1 = 0) {L : Nat} (hL : L ≤ 60) : Tx b L 0 (upS (txS b c L) 2 0) := by
  obtain ⟨q1, q2⟩ := txS_T (b := b) h1 hL
  exact ⟨by rw [upS_s (by omega)]; exact q1, fun k hk => by rw [upS_r (by omega)]; exact q2 k hk, by unfold upS; rw [upC_at]; exact up2_at, hL, by omega⟩
/-- no command at all -/
theorem q_text {c : CS} (h1 : c 11 3 1 = 0) : v_commands (txS txQ c 1) = -1001 ∧ s_commands (txS txQ c 1) 11 3 8 = 0 ∧ ∀ j, j = 10 ∨ j = 11 ∨ j = 12 → s_commands (txS txQ c 1) 11 3 j = c 11 3 j := by
  have hT := txS_T2 (b := txQ) h1 (L := 1) (by omega)
  obtain ⟨-, -, -, -, q5, -, -⟩ := txS_f (b := txQ) h1 1 (by omega)
  have hcc : pSe (txS txQ c 1) (ccS (txS txQ c 1)) := pSe_cc
  generalize hX : txS txQ c 1 = X at *
  obtain ⟨t0, e3, e0⟩ := hT.rc0
  have eB : rcB (upS X 2 0) = [] := by
    show fmB (rc0 (upS X 2 0) 11 3 3) = _
    rw [e3]
    rfl
  have hP : ¬ rcP (upS X 2 0) := by
    intro h
    apply h.2
    rw [eB]
    rfl
  have eS : rcS (upS X 2 0) = rc0 (upS X 2 0) := by
    unfold rcS
    rw [eB]
    rfl
  have eL : ccL 60 1 (upS X 2 0) = (-1, rcS (upS X 2 0)) := by rw [ccL, if_pos hP]
  have ev : ccV X = -1 := by unfold ccV; rw [eL]
  have es : ccS X 11 3 2 = 0 := by
    unfold ccS
    rw [eL]
    show rcS (upS X 2 0) 11 3 2 = 0
    rw [eS]
    exact t0.2.2.1
  refine ⟨?_, ?_, fun j hj => ?_⟩
  · unfold v_commands
    rw [if_neg (fun q => q ev)]
  · unfold s_commands
    rw [if_neg (fun q => q ev), upS_s (by omega)]
    unfold upS
    rw [upC_at, up2_at]
    exact es
  · unfold s_commands
    rw [if_neg (fun q => q ev), upS_s (by omega), upS_s (by omega), hcc.2.2.2 j (by omega) (by omega) (by omega)]
    exact q5 j (by omega)
section WW
variable {b : Nat → Int32} {L p d : Nat} {c u : CS}
theorem Tx.lt (h : Tx b L p c) (hp : p < L) : c 11 3 2 < c 11 3 1 := by
  obtain ⟨h1, -, h3, h4, -⟩ := h
  rw [h1, h3]
  exact nI_lt hp (by omega)
theorem cc_go (h : Tx b L p c) (hp : p + 2 < L) (h0 : b p = 119) (h1 : b (p + 1) = nI (48 + d)) (hd : d < 10) (h2 : b (p + 2) = 59) (D k : Nat) : ∃ u, ccL (D + 1) k c = ccL D (k + 1) u ∧ Tx b L (p + 3) u := by
  obtain ⟨w1, w2, -, -⟩ := wd h (by omega) h0 h1 hd (by unfold sgB; rw [if_pos hp, h2]; decide)
  obtain ⟨a1, a2⟩ := w2.rs hp h2
  refine ⟨_, ?_, w2.go hp⟩
  rw [ccL, if_neg (fun q => q w1), if_neg (fun q => q (w2.lt hp)), if_neg (fun q => q a1), a2]
theorem cc_end (h : Tx b L p c) (hp : p + 2 = L) (h0 : b p = 119) (h1 : b (p + 1) = nI (48 + d)) (hd : d < 10) (D k : Nat) : (ccL (D + 1) k c).1 = nI k := by
  obtain ⟨w1, w2, -, -⟩ := wd h (by omega) h0 h1 hd (by unfold sgB; rw [if_neg (by omega)]; decide)
  have hn : ¬ rcS c 11 3 2 < rcS c 11 3 1 := by
    rw [w2.1, w2.2.2.1, hp]
    exact Int32.lt_irrefl
  rw [ccL, if_neg (fun q => q w1), if_pos hn]
/-- one wait that is done -/
theorem cm_go {ns np nh nc t dh cu : Nat} (h : Tx b L p u) (hF : FI ns np nh nc t dh cu (u 0)) (ht : t + d < 2 ^ 30) (hp : p + 2 < L) (h0 : b p = 119) (h1 : b (p + 1) = nI (48 + d)) (hd1 : 1 ≤ d) (hd : d < 10) (h2 : b (p + 2) = 59) (D k : Nat) : ∃ u', cmL (D + 1) k u = cmL D (k + 1) u' ∧ Tx b L (p + 3) u' ∧ FI ns np nh nc (t + d) dh cu (u' 0) ∧ u' 11 3 8 = u 11 3 8 := by
  have h9 : Tx b L p (upS u 9 (nI k)) := h.up (by omega) (by omega)
  obtain ⟨w1, w2, w3, w4⟩ := wd h9 (by omega) h0 h1 hd (by unfold sgB; rw [if_pos hp, h2]; decide)
  have hps : pSe (upS u 9 (nI k)) (cm1 u k) := pSe_rc
  have w3 : cm1 u k 11 3 3 = 119 := w3
  have w4 : gN (cm1 u k) 0 = nI _ := w4
  have e0 : cm1 u k 0 = u 0 := by rw [hps.1 0 (by omega), upS_f (by omega)]
  obtain ⟨v, fl', hv, e, hF2, -⟩ := ph_ok hF hd1 (by omega) ht
  have eR : cmR (cm1 u k) = .inl (nI v, fl') := by
    show coO (cm1 u k 11 3 3) (gN (cm1 u k) 0) (gN (cm1 u k) 1) (gN (cm1 u k) 2) (cm1 u k 0) = _
    rw [e0, w3, w4]
    unfold coO
    rw [if_neg (by decide), if_neg (by decide), if_neg (by decide), if_neg (by decide), if_neg (by decide), if_neg (by decide)]
    exact e
  have hn : ¬ rvC (cmR (cm1 u k)) = -1 := by rw [eR]; exact nI_n1 hv
  have w5 : Tx b L (p + 2) (upC (cm1 u k) 0 fl') := ⟨w2.1, w2.2.1, w2.2.2.1, w2.2.2.2⟩
  obtain ⟨a1, a2⟩ := w5.rs hp h2
  have e2 : cm2 u k = upS (upC (cm1 u k) 0 fl') 2 (nI (p + 2 + 1)) := by
    unfold cm2
    rw [eR, rsC_l, a2]
  refine ⟨cm2 u k, cmL_f hn, by rw [e2]; exact w5.go hp, ?_, ?_⟩
  · rw [e2, upS_f (by omega), upC_at]
    exact hF2
  · rw [e2, upS_s (by omega), upC_ne (by omega), hps.2.2.2 8 (by omega) (by omega) (by omega), upS_s (by omega)]
/-- the wait of no hours is refused -/
theorem cm_end (h : Tx b L p u) (hp : p + 2 = L) (h0 : b p = 119) (h1 : b (p + 1) = 48) (D k : Nat) : ∃ E, cmL (D + 1) k u = (false, E) ∧ E 11 3 10 = 1 ∧ E 11 3 11 = 0 ∧ E 11 3 12 = nI k ∧ E 11 3 8 = u 11 3 8 := by
  have h9 : Tx b L p (upS u 9 (nI k)) := h.up (by omega) (by omega)
  obtain ⟨w1, w2, w3, w4⟩ := wd (d := 0) h9 (by omega) h0 h1 (by omega) (by unfold sgB; rw [if_neg (by omega)]; decide)
  have hps : pSe (upS u 9 (nI k)) (cm1 u k) := pSe_rc
  have w3 : cm1 u k 11 3 3 = 119 := w3
  have w4 : gN (cm1 u k) 0 = nI _ := w4
  have eR : cmR (cm1 u k) = .inr (1, 0) := by
    show coO (cm1 u k 11 3 3) (gN (cm1 u k) 0) (gN (cm1 u k) 1) (gN (cm1 u k) 2) (cm1 u k 0) = _
    rw [w3, w4]
    unfold coO
    rw [if_neg (by decide), if_neg (by decide), if_neg (by decide), if_neg (by decide), if_neg (by decide), if_neg (by decide)]
    unfold phO
    rw [if_pos (Or.inl (by decide))]
  have hn : rvC (cmR (cm1 u k)) = -1 := by rw [eR]; rfl
  have hrs : pSe (rfS (cm1 u k) 1 0) (cm2 u k) := by
    unfold cm2
    rw [eR, rsC_r]
    exact pSe_rs
  have e9 : cm1 u k 11 3 9 = nI k := by
    rw [hps.2.2.2 9 (by omega) (by omega) (by omega)]
    unfold upS
    rw [upC_at, up2_at]
  have e8 : cm1 u k 11 3 8 = u 11 3 8 := by rw [hps.2.2.2 8 (by omega) (by omega) (by omega), upS_s (by omega)]
  refine ⟨cm2 u k, cmL_t hn, ?_, ?_, ?_, ?_⟩
  · rw [hrs.2.2.2 10 (by omega) (by omega) (by omega)]; rfl
  · rw [hrs.2.2.2 11 (by omega) (by omega) (by omega)]; rfl
  · rw [hrs.2.2.2 12 (by omega) (by omega) (by omega)]
    show cm1 u k 11 3 9 = _
    exact e9
  · rw [hrs.2.2.2 8 (by omega) (by omega) (by omega)]
    show cm1 u k 11 3 8 = _
    exact e8
end WW
/-- two waits, and one of no hours -/
theorem w_text {ns np nh nc t dh cu : Nat} {c : CS} (h1 : c 11 3 1 = 0) (hF : FI ns np nh nc t dh cu (c 0)) (ht : t + 2 < 2 ^ 30) : v_commands (txS txW c 8) = -1002 ∧ s_commands (txS txW c 8) 11 3 8 = -1 ∧ s_commands (txS txW c 8) 11 3 10 = 1 ∧ s_commands (txS txW c 8) 11 3 11 = 0 ∧ s_commands (txS txW c 8) 11 3 12 = 2 := by
  have hT := txS_T2 (b := txW) h1 (L := 8) (by omega)
  obtain ⟨q1, q2, -, -, -, q6, -⟩ := txS_f (b := txW) h1 8 (by omega)
  have q20 := q2 0 (by omega)
  generalize hX : txS txW c 8 = X at *
  obtain ⟨u1, a1, t1⟩ := cc_go (d := 1) hT (by omega) rfl rfl (by omega) rfl 59 1
  obtain ⟨u2, a2, t2⟩ := cc_go (d := 1) t1 (by omega) rfl rfl (by omega) rfl 58 2
  have a3 := cc_end (d := 0) t2 (by omega) rfl rfl (by omega) 57 3
  have ev : ccV X = 3 := by
    unfold ccV
    rw [a1, a2]
    exact a3
  have hn : ¬ ccV X = -1 := by rw [ev]; decide
  obtain ⟨i1, i2, i3, i4, i5⟩ := cmI_K (c := X)
  have hI : Tx txW 8 0 (cmI X) := ⟨(i5 1 (Or.inl rfl)).trans q1, fun k hk => by rw [i3]; exact q6 k hk, by unfold cmI upS; rw [upC_at]; exact up2_at, by omega, by omega⟩
  have h8 : cmI X 11 3 8 = -1 := by
    unfold cmI
    rw [upS_s (by omega), bgS_s (by omega)]
    unfold upS
    rw [upC_at, up2_at]
  have hF0 : FI ns np nh nc t dh cu (cmI X 0) := by
    rw [i1 0 (by omega) (by omega), q20]
    exact hF
  obtain ⟨v1, b1, s1, f1, g1⟩ := cm_go (d := 1) hI hF0 (by omega) (by omega) rfl rfl (by omega) (by omega) rfl 2 0
  obtain ⟨v2, b2, s2, f2, g2⟩ := cm_go (d := 1) s1 f1 (by omega) (by omega) rfl rfl (by omega) (by omega) rfl 1 1
  obtain ⟨E, b3, z1, z2, z3, z4⟩ := cm_end s2 (by omega) rfl rfl 0 2
  have eE : cmE X = (false, E) := by
    unfold cmE
    rw [ev]
    show cmL 3 0 (cmI X) = _
    rw [b1, b2, b3]
  have es : s_commands X = upS (upC E 0 (E 1)) 1 0 := by
    unfold s_commands
    rw [if_pos hn, eE, if_neg Bool.false_ne_true]
  refine ⟨?_, ?_, ?_, ?_, ?_⟩
  · unfold v_commands
    rw [if_pos hn, eE, if_neg Bool.false_ne_true]
  · rw [es, upS_s (by omega), upC_ne (by omega), z4, g2, g1, h8]
  · rw [es, upS_s (by omega), upC_ne (by omega), z1]
  · rw [es, upS_s (by omega), upC_ne (by omega), z2]
  · rw [es, upS_s (by omega), upC_ne (by omega), z3]; rfl
