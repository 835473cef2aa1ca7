/-! THE CHANGES on both sides: stakes, posts, sheets, heat, sights, camels, water -/
theorem upd_at {f : Nat → Int32} {k : Nat} {v : Int32} : upd f k v k = v := by simp [upd]
theorem upd_ne {f : Nat → Int32} {k j : Nat} {v : Int32} (h : j ≠ k) : upd f k v j = f j := by simp [upd, h]
theorem upR_sz {fl : FL} {k : Nat} {sz : Int32} {g : Nat → Int32} : upR fl k sz g 8 k = sz := up2_at
theorem upR_r {fl : FL} {k : Nat} {sz : Int32} {g : Nat → Int32} (h : k ≠ 8) : upR fl k sz g k = g := by
  unfold upR
  rw [up2_nk h, up1_at]
theorem upR_o {fl : FL} {k j : Nat} {sz : Int32} {g : Nat → Int32} (h : j ≠ 8) (h2 : j ≠ k) : upR fl k sz g j = fl j := by
  unfold upR
  rw [up2_nk h, up1_ne h2]
theorem upR_z {fl : FL} {k j : Nat} {sz : Int32} {g : Nat → Int32} (h : k ≠ 8) (h2 : j ≠ k) : upR fl k sz g 8 j = fl 8 j := by
  unfold upR
  rw [up2_ni h2, up1_ne (Ne.symm h)]
theorem rAdd_k {fl : FL} {k n m : Nat} {v : Int32} (e : fl 8 k = nI m) (h : m < n) (hn : n < 2 ^ 31) : rAdd fl k n v = upR fl k (nI (m + 1)) (upd (fl k) m v) ∧ rAddV fl k n = nI m := by
  have hr : rroom n (fl 8 k) := by rw [e]; exact ⟨nI_pos (by omega), nI_lt h hn⟩
  unfold rAdd rAddV
  rw [if_pos hr, if_pos hr, if_pos hr, e, nI_clamp (by omega), nI_1, nI_pred]
  exact ⟨rfl, rfl⟩
theorem EqS.of {ns : Nat} {fl fl' : FL} {f f' : MF} (h : EqS ns fl f) (e1 : ∀ k, k < ns → fl' 0 k = fl 0 k) (e2 : ∀ k, k < ns → f' (9 + k) = f (9 + k)) : EqS ns fl' f' := fun k hk => by
  obtain ⟨a, h1, h2, h3⟩ := h k hk
  exact ⟨a, h1, by rw [e1 k hk, h2], by rw [e2 k hk, h3]⟩
theorem EqP.of {np : Nat} {fl fl' : FL} {f f' : MF} (hn : np ≤ 4) (h : EqP np fl f) (e1 : ∀ k, k < np → fl' 1 k = fl 1 k ∧ fl' 2 k = fl 2 k) (e2 : ∀ j, 19 ≤ j → j < 27 → f' j = f j) : EqP np fl' f' := ⟨fun k hk => by
  obtain ⟨a, z, h1, h2, h3, h4, h5, h6, h7⟩ := h.1 k hk
  exact ⟨a, z, h1, h2, h3, by rw [(e1 k hk).1, h4], by rw [(e1 k hk).2, h5], by rw [e2 _ (by omega) (by omega), h6], by rw [e2 _ (by omega) (by omega), h7]⟩, fun k hk => by
  obtain ⟨z, h1, h2⟩ := h.2 k hk
  exact ⟨z, h1, by rw [e2 _ (by omega) (by omega), h2]⟩⟩
theorem EqD.of {ns nh : Nat} {fl fl' : FL} {f f' : MF} (hn : nh ≤ 3) (h : EqD ns nh fl f) (e1 : fl' 3 = fl 3) (e2 : ∀ j, 27 ≤ j → j < 57 → f' j = f j) : EqD ns nh fl' f' := ⟨fun j hj k hk => by
  obtain ⟨a, h1, h2, h3⟩ := h.1 j hj k hk
  exact ⟨a, h1, by rw [e1, h2], by rw [e2 _ (by omega) (by omega), h3]⟩, fun j hj k hk ho => by rw [e1]; exact h.2 j hj k hk ho⟩
theorem EqC.of {nc : Nat} {fl fl' : FL} {f f' : MF} (h : EqC nc fl f) (e1 : ∀ k, k < nc → fl' 4 k = fl 4 k ∧ fl' 5 k = fl 5 k ∧ fl' 6 k = fl 6 k ∧ fl' 7 k = fl 7 k) (e2 : ∀ j, 57 ≤ j → j < 57 + 4 * nc → f' j = f j) : EqC nc fl' f' := fun k hk => by
  obtain ⟨a, u, h1, h2, h3, h4, h5, h6, h7, h8, b, h9, h10⟩ := h k hk
  obtain ⟨q1, q2, q3, q4⟩ := e1 k hk
  exact ⟨a, u, h1, h2, by rw [q1, h3], by rw [e2 _ (by omega) (by omega), h4], by rw [q2, h5], by rw [e2 _ (by omega) (by omega), h6], by rw [q3, h7, e2 _ (by omega) (by omega)], by rw [q4, h8, e2 _ (by omega) (by omega)], b, h9, by rw [e2 _ (by omega) (by omega), h10]⟩
theorem sum7_of {nc : Nat} {fl fl' : FL} (e : ∀ k, k < nc → fl' 7 k = fl 7 k) : sum7 fl' nc = sum7 fl nc := itr_congr nc (fun k x hk => by rw [e k hk])
theorem sum7_up {g : Nat → Int32} {c : Nat} {v : Int32} : ∀ n, itr (fun k a => a + upd g c (g c + v) k) 0 n = itr (fun k a => a + g k) 0 n + (if c < n then v else 0)
  | 0 => by rw [if_neg (by omega)]; rfl
  | n + 1 => by
    show itr (fun k a => a + upd g c (g c + v) k) 0 n + upd g c (g c + v) n = itr (fun k a => a + g k) 0 n + g n + _
    rw [sum7_up n]
    by_cases h : c = n
    · subst h
      rw [upd_at, if_neg (by omega), if_pos (by omega), Int32.add_zero, Int32.add_assoc]
    · rw [upd_ne (Ne.symm h)]
      by_cases h2 : c < n
      · rw [if_pos h2, if_pos (by omega), Int32.add_assoc, Int32.add_assoc, Int32.add_comm v]
      · rw [if_neg h2, if_neg (by omega), Int32.add_zero, Int32.add_zero]
theorem op_stake {n : Nat} {fl : FL} {f : MF} (h : FR n fl f) (p : Int32) : OpR n (dsO fl p) (stM f p) := by
  obtain ⟨ns, np, nh, nc, t, dh, cu, htn, h⟩ := h
  have h0 := h
  obtain ⟨⟨b1, b2, b3, b4, b5, b6, b7⟩, ⟨z0, z1, z2, z3, z4, z5, z6, z7, z8⟩, ⟨m1, m2, m3, m4⟩, ht, hd, hc, h8, h7, hS, hP, hD, hC⟩ := h
  unfold dsO stM
  refine OpR_if (not_congr isPl_iff) (fun _ => rfl) (fun c1 => ?_)
  obtain ⟨a, ha, rfl⟩ := pl_of (Decidable.not_not.mp c1)
  refine OpR_if (by rw [z0, m1, nI_ltI (by omega) (by decide), show (10 : Int32) = nI 10 from rfl, nI_eq (by omega) (by decide)]; omega) (fun _ => rfl) (fun c2 => ?_)
  rw [z0, nI_ltI (by omega) (by decide)] at c2
  have hf : rfind 10 (fl 8 0) (fl 0) (nI a) = fnd (fun k => decide (mS f (nI k) = nI a)) (f 2).toNatClampNeg 0 := by
    unfold rfind
    rw [m1, z0, nI_clamp (by omega)]
    refine fnd_congr _ _ (fun j h1 h2 => ?_)
    obtain ⟨q, hq, e1, e2⟩ := h0.pS (k := j) (by omega)
    have e1 : rget 10 (fl 8 0) (fl 0) (nI j) = nI q := e1
    rw [z0] at e1
    rw [e1, e2]
  rw [← hf]
  refine OpR_if Iff.rfl (fun _ => rfl) (fun _ => ?_)
  obtain ⟨e1, e2⟩ := rAdd_k (v := nI a) z0 (n := 10) (by omega) (by decide)
  refine ⟨by rw [e2, m1], by show ¬ rAddV fl 0 10 = -1; rw [e2]; exact nI_n1 (by omega), ns + 1, np, nh, nc, t, dh, cu, htn, ?_⟩
  show FP (ns + 1) np nh nc t dh cu (rAdd fl 0 10 (nI a)) (stF f (nI a))
  have ef : stF f (nI a) = upd (upd f 2 (nI (ns + 1))) (9 + ns) (nI a) := by
    unfold stF
    rw [m1, nI_1, show (9 : Int32) = nI 9 from rfl, nI_add, nI_clamp (by omega)]
  rw [e1, ef]
  have lo : ∀ j, j ≠ 2 → j ≠ 9 + ns → upd (upd f 2 (nI (ns + 1))) (9 + ns) (nI a) j = f j := fun j h1 h2 => by rw [upd_ne h2, upd_ne h1]
  refine ⟨⟨by omega, b2, b3, b4, b5, b6, b7⟩, ⟨upR_sz, z1, z2, z3, z4, z5, z6, z7, z8⟩, ⟨by rw [upd_ne (by omega), upd_at], ?_, ?_, ?_⟩, ⟨ht.1, ?_⟩, ⟨hd.1, ?_⟩, ⟨hc.1, ?_⟩, ?_, ?_, ?_, ?_, ?_, ?_⟩
  · rw [lo _ (by omega) (by omega)]; exact m2
  · rw [lo _ (by omega) (by omega)]; exact m3
  · rw [lo _ (by omega) (by omega)]; exact m4
  · rw [lo _ (by omega) (by omega)]; exact ht.2
  · rw [lo _ (by omega) (by omega)]; exact hd.2
  · rw [lo _ (by omega) (by omega)]; exact hc.2
  · rw [lo _ (by omega) (by omega)]; exact h8
  · rw [lo _ (by omega) (by omega)]; exact h7
  · intro k hk
    rw [upR_r (by omega)]
    by_cases hkn : k = ns
    · subst hkn
      exact ⟨a, ha, upd_at, upd_at⟩
    · obtain ⟨q, q1, q2, q3⟩ := hS k (by omega)
      exact ⟨q, q1, by rw [upd_ne hkn, q2], by rw [lo _ (by omega) (by omega), q3]⟩
  · exact hP.of b2 (fun k hk => ⟨rfl, rfl⟩) (fun j h1 h2 => lo j (by omega) (by omega))
  · obtain ⟨d1, d2⟩ := EqD.of (f' := upd (upd f 2 (nI (ns + 1))) (9 + ns) (nI a)) b3 hD rfl (fun j h1 h2 => lo j (by omega) (by omega))
    exact ⟨d1, fun j hj k hk ho => d2 j hj k hk (by omega)⟩
  · exact hC.of (fun k hk => ⟨rfl, rfl, rfl, rfl⟩) (fun j h1 h2 => lo j (by omega) (by omega))
theorem op_post {n : Nat} {fl : FL} {f : MF} (h : FR n fl f) (p z : Int32) : OpR n (spO fl p z) (poM f p z) := by
  obtain ⟨ns, np, nh, nc, t, dh, cu, htn, h⟩ := h
  have h0 := h
  obtain ⟨⟨b1, b2, b3, b4, b5, b6, b7⟩, ⟨z0, z1, z2, z3, z4, z5, z6, z7, z8⟩, ⟨m1, m2, m3, m4⟩, ht, hd, hc, h8, h7, hS, hP, hD, hC⟩ := h
  unfold spO poM
  have hz9 : (z < 1 ∨ ¬ z ≤ 9) ↔ ¬ inB z 1 9 := by
    unfold inB
    rw [Int32.lt_iff_toInt_lt, Int32.le_iff_toInt_le, Int32.lt_iff_toInt_lt, show (9 : Int32).toInt = 9 from rfl, show (1 : Int32).toInt = 1 from rfl]
    omega
  refine OpR_if (by rw [isPl_iff, hz9]) (fun _ => rfl) (fun c1 => ?_)
  obtain ⟨a, ha, rfl⟩ := pl_of (Decidable.not_not.mp (fun q => c1 (Or.inl q)))
  have c3 : inB z 1 9 := Decidable.not_not.mp (fun q => c1 (Or.inr (hz9.mpr q)))
  obtain ⟨y, hy1, hy2, rfl⟩ : ∃ y, 1 ≤ y ∧ y ≤ 9 ∧ z = nI y := by
    have q0 : ¬ z < 0 := fun q => c3.1 (Int32.lt_of_lt_of_le q (by decide))
    obtain ⟨j, hj, rfl⟩ := nI_of q0
    refine ⟨j, ?_, ?_, rfl⟩
    · rcases Nat.lt_or_ge j 1 with q | q
      · exact absurd (nI_lt (b := 1) q (by decide)) c3.1
      · exact q
    · rcases Nat.lt_or_ge 9 j with q | q
      · exact absurd (nI_lt (a := 9) q hj) c3.2
      · exact q
  refine OpR_if (by rw [z1, m2, nI_ltI (by omega) (by decide), show (4 : Int32) = nI 4 from rfl, nI_eq (by omega) (by decide)]; omega) (fun _ => rfl) (fun c2 => ?_)
  rw [z1, nI_ltI (by omega) (by decide)] at c2
  obtain ⟨e1, e2⟩ := rAdd_k (v := nI y) z2 (n := 4) (by omega) (by decide)
  have z1' : (rAdd fl 2 4 (nI y)) 8 1 = nI np := by rw [e1, upR_z (by omega) (by omega), z1]
  obtain ⟨e3, e4⟩ := rAdd_k (v := nI a) z1' (n := 4) (by omega) (by decide)
  refine ⟨by rw [e4, m2], by show ¬ rAddV (rAdd fl 2 4 (nI y)) 1 4 = -1; rw [e4]; exact nI_n1 (by omega), ns, np + 1, nh, nc, t, dh, cu, htn, ?_⟩
  show FP ns (np + 1) nh nc t dh cu (rAdd (rAdd fl 2 4 (nI y)) 1 4 (nI a)) (poF f (nI a) (nI y))
  have ef : poF f (nI a) (nI y) = upd (upd (upd f 3 (nI (np + 1))) (19 + 2 * np) (nI a)) (19 + 2 * np + 1) (nI y) := by
    unfold poF
    rw [m2, nI_1, show (19 : Int32) = nI 19 from rfl, show (2 : Int32) = nI 2 from rfl, nI_mul, nI_add, nI_1, nI_clamp (by omega), nI_clamp (by omega)]
  rw [e3, ef, e1]
  have lo : ∀ j, j ≠ 3 → j ≠ 19 + 2 * np → j ≠ 19 + 2 * np + 1 → upd (upd (upd f 3 (nI (np + 1))) (19 + 2 * np) (nI a)) (19 + 2 * np + 1) (nI y) j = f j := fun j h1 h2 h3 => by rw [upd_ne h3, upd_ne h2, upd_ne h1]
  have r1 : (upR (upR fl 2 (nI (np + 1)) (upd (fl 2) np (nI y))) 1 (nI (np + 1)) (upd (upR fl 2 (nI (np + 1)) (upd (fl 2) np (nI y)) 1) np (nI a))) 1 = upd (fl 1) np (nI a) := by
    rw [upR_r (by omega), upR_o (by omega) (by omega)]
  have r2 : (upR (upR fl 2 (nI (np + 1)) (upd (fl 2) np (nI y))) 1 (nI (np + 1)) (upd (upR fl 2 (nI (np + 1)) (upd (fl 2) np (nI y)) 1) np (nI a))) 2 = upd (fl 2) np (nI y) := by
    rw [upR_o (by omega) (by omega), upR_r (by omega)]
  refine ⟨⟨b1, by omega, b3, b4, b5, b6, b7⟩, ⟨z0, upR_sz, (upR_z (by omega) (by omega)).trans upR_sz, z3, z4, z5, z6, z7, z8⟩, ⟨?_, by rw [upd_ne (by omega), upd_ne (by omega), upd_at], ?_, ?_⟩, ⟨ht.1, ?_⟩, ⟨hd.1, ?_⟩, ⟨hc.1, ?_⟩, ?_, ?_, ?_, ⟨?_, ?_⟩, ?_, ?_⟩
  · rw [lo _ (by omega) (by omega) (by omega)]; exact m1
  · rw [lo _ (by omega) (by omega) (by omega)]; exact m3
  · rw [lo _ (by omega) (by omega) (by omega)]; exact m4
  · rw [lo _ (by omega) (by omega) (by omega)]; exact ht.2
  · rw [lo _ (by omega) (by omega) (by omega)]; exact hd.2
  · rw [lo _ (by omega) (by omega) (by omega)]; exact hc.2
  · rw [lo _ (by omega) (by omega) (by omega)]; exact h8
  · rw [lo _ (by omega) (by omega) (by omega)]; exact h7
  · exact hS.of (fun k hk => rfl) (fun k hk => lo _ (by omega) (by omega) (by omega))
  · intro k hk
    rw [r1, r2]
    by_cases hkn : k = np
    · subst hkn
      exact ⟨a, y, ha, hy1, hy2, upd_at, upd_at, by rw [upd_ne (by omega), upd_at], upd_at⟩
    · obtain ⟨a', y', q1, q2, q3, q4, q5, q6, q7⟩ := hP.1 k (by omega)
      exact ⟨a', y', q1, q2, q3, by rw [upd_ne hkn, q4], by rw [upd_ne hkn, q5], by rw [lo _ (by omega) (by omega) (by omega), q6], by rw [lo _ (by omega) (by omega) (by omega), q7]⟩
  · intro k hk
    by_cases hkn : k = np
    · subst hkn
      exact ⟨y, hy2, upd_at⟩
    · obtain ⟨y', q1, q2⟩ := hP.2 k hk
      exact ⟨y', q1, by rw [lo _ (by omega) (by omega) (by omega), q2]⟩
  · exact hD.of b3 rfl (fun j h1 h2 => lo j (by omega) (by omega) (by omega))
  · exact hC.of (fun k hk => ⟨rfl, rfl, rfl, rfl⟩) (fun j h1 h2 => lo j (by omega) (by omega) (by omega))
theorem zS_1 {f X : MF} {q n : Nat} (hq : q < 3) (hn : n < 10) (e : f 4 = nI q) : zS f n X = upd X (27 + 10 * q + n) 0 := by
  unfold zS
  rw [e, show (27 : Int32) = nI 27 from rfl, show (10 : Int32) = nI 10 from rfl, nI_mul, nI_add, nI_add, nI_clamp (by omega)]
theorem zS_itr {f g : MF} {q : Nat} (hq : q < 3) (e : f 4 = nI q) : ∀ n, n ≤ 10 → ∀ j, itr (zS f) g n j = if 27 + 10 * q ≤ j ∧ j < 27 + 10 * q + n then 0 else g j
  | 0, _, j => by rw [if_neg (by omega)]; rfl
  | n + 1, hn, j => by
    show zS f n (itr (zS f) g n) j = _
    rw [zS_1 hq (by omega) e]
    by_cases h : j = 27 + 10 * q + n
    · subst h
      rw [upd_at, if_pos (by omega)]
    · rw [upd_ne h, zS_itr hq e n (by omega) j]
      by_cases h2 : 27 + 10 * q ≤ j ∧ j < 27 + 10 * q + n
      · rw [if_pos h2, if_pos (by omega)]
      · rw [if_neg h2, if_neg (by omega)]
theorem op_sheet {n : Nat} {fl : FL} {f : MF} (h : FR n fl f) : OpR n (asO fl) (shMo f) := by
  obtain ⟨ns, np, nh, nc, t, dh, cu, htn, h⟩ := h
  have h0 := h
  obtain ⟨⟨b1, b2, b3, b4, b5, b6, b7⟩, ⟨z0, z1, z2, z3, z4, z5, z6, z7, z8⟩, ⟨m1, m2, m3, m4⟩, ht, hd, hc, h8, h7, hS, hP, hD, hC⟩ := h
  unfold asO shMo
  refine OpR_if (by rw [z8, m3, show (3 : Int32) = nI 3 from rfl, nI_ltI (by omega) (by decide), nI_eq (by omega) (by decide)]; omega) (fun _ => rfl) (fun c2 => ?_)
  rw [z8, show (3 : Int32) = nI 3 from rfl, nI_ltI (by omega) (by decide)] at c2
  have ev : up2 fl 9 0 (fl 9 0 + 1) 9 0 - 1 = nI nh := by rw [up2_at, z8, nI_1, nI_pred]
  refine ⟨by rw [ev, m3], by show ¬ _ = _; rw [ev]; exact nI_n1 (by omega), ns, np, nh + 1, nc, t, dh, cu, htn, ?_⟩
  show FP ns np (nh + 1) nc t dh cu (up2 fl 9 0 (fl 9 0 + 1)) (shF f)
  have lo : ∀ j, j ≠ 4 → ¬ (27 + 10 * nh ≤ j ∧ j < 27 + 10 * nh + 10) → shF f j = f j := fun j h1 h2 => by
    unfold shF
    rw [zS_itr (by omega) m3 10 (Nat.le_refl _), if_neg h2, upd_ne h1]
  have hi : ∀ k, k < 10 → shF f (27 + 10 * nh + k) = 0 := fun k hk => by
    unfold shF
    rw [zS_itr (by omega) m3 10 (Nat.le_refl _), if_pos (by omega)]
  refine ⟨⟨b1, b2, by omega, b4, b5, b6, b7⟩, ⟨z0, z1, z2, z3, z4, z5, z6, z7, by rw [up2_at, z8, nI_1]⟩, ⟨?_, ?_, ?_, ?_⟩, ⟨ht.1, ?_⟩, ⟨hd.1, ?_⟩, ⟨hc.1, ?_⟩, ?_, ?_, ?_, ?_, ⟨?_, ?_⟩, ?_⟩
  · rw [lo _ (by omega) (by omega)]; exact m1
  · rw [lo _ (by omega) (by omega)]; exact m2
  · unfold shF
    rw [zS_itr (by omega) m3 10 (Nat.le_refl _), if_neg (by omega), upd_at, m3, nI_1]
  · rw [lo _ (by omega) (by omega)]; exact m4
  · rw [lo _ (by omega) (by omega)]; exact ht.2
  · rw [lo _ (by omega) (by omega)]; exact hd.2
  · rw [lo _ (by omega) (by omega)]; exact hc.2
  · rw [lo _ (by omega) (by omega)]; exact h8
  · rw [lo _ (by omega) (by omega)]; exact h7
  · exact hS.of (fun k hk => rfl) (fun k hk => lo _ (by omega) (by omega))
  · exact hP.of b2 (fun k hk => ⟨rfl, rfl⟩) (fun j h1 h2 => lo j (by omega) (by omega))
  · intro j hj k hk
    by_cases hjn : j = nh
    · subst hjn
      refine ⟨0, by omega, ?_, hi k hk⟩
      show fl 3 (10 * j + k) = _
      rw [hD.2 j (by omega) k hk (by omega)]
      rfl
    · obtain ⟨a, q1, q2, q3⟩ := hD.1 j (by omega) k hk
      exact ⟨a, q1, q2, by rw [lo _ (by omega) (by omega), q3]⟩
  · intro j hj k hk ho
    exact hD.2 j hj k hk (by omega)
  · exact hC.of (fun k hk => ⟨rfl, rfl, rfl, rfl⟩) (fun j h1 h2 => lo j (by omega) (by omega))
theorem op_heat {n : Nat} {fl : FL} {f : MF} (h : FR n fl f) (p : Int32) : OpR n (shO fl p) (heM f p) := by
  obtain ⟨ns, np, nh, nc, t, dh, cu, htn, h⟩ := h
  obtain ⟨⟨b1, b2, b3, b4, b5, b6, b7⟩, ⟨z0, z1, z2, z3, z4, z5, z6, z7, z8⟩, ⟨m1, m2, m3, m4⟩, ht, hd, hc, h8, h7, hS, hP, hD, hC⟩ := h
  unfold shO heM
  have hz9 : (p < 0 ∨ ¬ p ≤ 9) ↔ ¬ inB p 0 9 := by
    unfold inB
    rw [Int32.lt_iff_toInt_lt, Int32.le_iff_toInt_le, Int32.lt_iff_toInt_lt]
    omega
  refine OpR_if hz9 (fun _ => rfl) (fun c1 => ?_)
  obtain ⟨y, hy, rfl⟩ := (inB_iff2 (n := 9) (by decide)).mp (Decidable.not_not.mp (fun q => c1 (hz9.mpr q)))
  have hn : FP ns np nh nc t y cu (up2 fl 9 2 (nI y)) (upd f 1 (nI y)) := by
    have lo : ∀ j, j ≠ 1 → upd f 1 (nI y) j = f j := fun j h1 => upd_ne h1
    refine ⟨⟨b1, b2, b3, b4, b5, hy, b7⟩, ⟨z0, z1, z2, z3, z4, z5, z6, z7, z8⟩, ⟨m1, m2, m3, m4⟩, ⟨ht.1, ht.2⟩, ⟨up2_at, upd_at⟩, ⟨hc.1, hc.2⟩, h8, h7, ?_, ?_, ?_, ?_⟩
    · exact hS.of (fun k hk => rfl) (fun k hk => lo _ (by omega))
    · exact hP.of b2 (fun k hk => ⟨rfl, rfl⟩) (fun j h1 h2 => lo j (by omega))
    · exact hD.of b3 rfl (fun j h1 h2 => lo j (by omega))
    · exact hC.of (fun k hk => ⟨rfl, rfl, rfl, rfl⟩) (fun j h1 h2 => lo j (by omega))
  have e1 := hn.heat
  have e2 := hn.heatM0
  have h3 := hn.hle (t' := t)
  refine ⟨by rw [e1, e2], by show ¬ _ = _; rw [e1]; exact nI_n1 (by omega), ns, np, nh, nc, t, y, cu, htn, hn⟩
/-- a drawn place is written on both sides -/
theorem FP.draw {ns np nh nc t dh cu : Nat} {fl : FL} {f : MF} (h : FP ns np nh nc t dh cu fl f) {k q a : Nat} (hk : k < ns) (hq : q < nh) (ha : a ≤ 100) {v : Int32} (hv : v = nI a - 1) : FP ns np nh nc t dh cu (sgF fl (nI k) (nI q) v) (dwF f (nI k) (nI q) (nI a)) := by
  obtain ⟨⟨b1, b2, b3, b4, b5, b6, b7⟩, ⟨z0, z1, z2, z3, z4, z5, z6, z7, z8⟩, ⟨m1, m2, m3, m4⟩, ht, hd, hc, h8, h7, hS, hP, hD, hC⟩ := h
  have ef : sgF fl (nI k) (nI q) v = up1 fl 3 (upd (fl 3) (10 * q + k) v) := by
    unfold sgF
    rw [z3, show (10 : Int32) = nI 10 from rfl, nI_mul, nI_add, rset_k (by omega) (by omega) (by decide), show q * 10 + k = 10 * q + k by omega]
  rw [ef, dwF_k (by omega) (by omega)]
  have lo : ∀ j, j ≠ 27 + 10 * q + k → upd f (27 + 10 * q + k) (nI a) j = f j := fun j h1 => upd_ne h1
  refine ⟨⟨b1, b2, b3, b4, b5, b6, b7⟩, ⟨z0, z1, z2, z3, z4, z5, z6, z7, z8⟩, ⟨?_, ?_, ?_, ?_⟩, ⟨ht.1, ?_⟩, ⟨hd.1, ?_⟩, ⟨hc.1, ?_⟩, ?_, ?_, ?_, ?_, ⟨?_, ?_⟩, ?_⟩
  · rw [lo _ (by omega)]; exact m1
  · rw [lo _ (by omega)]; exact m2
  · rw [lo _ (by omega)]; exact m3
  · rw [lo _ (by omega)]; exact m4
  · rw [lo _ (by omega)]; exact ht.2
  · rw [lo _ (by omega)]; exact hd.2
  · rw [lo _ (by omega)]; exact hc.2
  · rw [lo _ (by omega)]; exact h8
  · rw [lo _ (by omega)]; exact h7
  · exact hS.of (fun k hk => rfl) (fun k hk => lo _ (by omega))
  · exact hP.of b2 (fun k hk => ⟨rfl, rfl⟩) (fun j h1 h2 => lo j (by omega))
  · intro j hj i hi
    rw [up1_at]
    by_cases hji : 10 * j + i = 10 * q + k
    · exact ⟨a, ha, by rw [hji, upd_at, hv], by rw [show 27 + 10 * j + i = 27 + 10 * q + k by omega, upd_at]⟩
    · obtain ⟨a', q1, q2, q3⟩ := hD.1 j hj i hi
      exact ⟨a', q1, by rw [upd_ne hji, q2], by rw [lo _ (by omega), q3]⟩
  · intro j hj i hi ho
    rw [up1_at, upd_ne (by omega)]
    exact hD.2 j hj i hi ho
  · exact hC.of (fun k hk => ⟨rfl, rfl, rfl, rfl⟩) (fun j h1 h2 => lo j (by omega))
theorem op_sight {n : Nat} {fl : FL} {f : MF} (h : FR n fl f) (s p q : Int32) : OpR n (sgO fl s p q) (sgM f s p q) := by
  obtain ⟨ns, np, nh, nc, t, dh, cu, htn, h⟩ := h
  unfold sgO sgM
  refine OpR_if (not_congr h.ijS) (fun _ => rfl) (fun c1 => ?_)
  refine OpR_if (not_congr h.ijP) (fun _ => rfl) (fun c2 => ?_)
  refine OpR_if (not_congr h.ijH) (fun _ => rfl) (fun c3 => ?_)
  obtain ⟨i, hi, rfl⟩ := h.iS.mp (Decidable.not_not.mp c1)
  obtain ⟨j, hj, rfl⟩ := h.iP.mp (Decidable.not_not.mp c2)
  obtain ⟨k, hk, rfl⟩ := h.iH.mp (Decidable.not_not.mp c3)
  rw [h.htm hi hj]
  refine OpR_if Iff.rfl (fun _ => rfl) (fun _ => ?_)
  rw [h.seem hi hj]
  obtain ⟨a, ha, e⟩ := h.seemB hi hj
  rw [e]
  refine ⟨rfl, nI_n1 (by omega), ns, np, nh, nc, t, dh, cu, htn, ?_⟩
  have hd := h.draw (v := nI a) (a := a + 1) hi hk (by omega) (nI_pred a).symm
  rw [← nI_1] at hd
  obtain ⟨⟨b1, b2, b3, b4, b5, b6, b7⟩, ⟨z0, z1, z2, z3, z4, z5, z6, z7, z8⟩, ⟨m1, m2, m3, m4⟩, ht, hd, hc, h8, h7, hS, hP, hD, hC⟩ := hd
  show FP ns np nh nc t dh cu (up2 (sgF fl (nI i) (nI k) (nI a)) 9 4 (sgF fl (nI i) (nI k) (nI a) 9 4 + 1)) (upd (dwF f (nI i) (nI k) (nI a + 1)) 8 (dwF f (nI i) (nI k) (nI a + 1) 8 + 1))
  generalize dwF f (nI i) (nI k) (nI a + 1) = f1 at *
  have lo : ∀ j, j ≠ 8 → upd f1 8 (f1 8 + 1) j = f1 j := fun j h1 => upd_ne h1
  refine ⟨⟨b1, b2, b3, b4, b5, b6, b7⟩, ⟨z0, z1, z2, z3, z4, z5, z6, z7, z8⟩, ⟨m1, m2, m3, m4⟩, ⟨ht.1, ht.2⟩, ⟨hd.1, hd.2⟩, ⟨hc.1, hc.2⟩, by rw [up2_at, upd_at, h8], h7, ?_, ?_, ?_, ?_⟩
  · exact hS.of (fun k hk => rfl) (fun k hk => lo _ (by omega))
  · exact hP.of b2 (fun k hk => ⟨rfl, rfl⟩) (fun j h1 h2 => lo j (by omega))
  · exact hD.of b3 rfl (fun j h1 h2 => lo j (by omega))
  · exact hC.of (fun k hk => ⟨rfl, rfl, rfl, rfl⟩) (fun j h1 h2 => lo j (by omega))
theorem m1_iff {a : Nat} (h : a ≤ 100) : (nI a - 1 = -1 ↔ a = 0) ∧ (0 ≤ nI a - 1 ↔ ¬ a = 0) ∧ (nI a - 1 < 0 ↔ a = 0) := by
  rcases Nat.eq_zero_or_pos a with rfl | h0
  · exact ⟨⟨fun _ => rfl, fun _ => rfl⟩, ⟨fun q => absurd q (by decide), fun q => absurd rfl q⟩, ⟨fun _ => rfl, fun _ => by decide⟩⟩
  · have e : nI a - 1 = nI (a - 1) := nI_sub h0
    rw [e]
    exact ⟨⟨fun q => absurd q (nI_n1 (by omega)), fun q => absurd q (by omega)⟩, ⟨fun _ => by omega, fun _ => nI_pos' (by omega)⟩, ⟨fun q => absurd q (nI_pos (by omega)), fun q => absurd q (by omega)⟩⟩
theorem op_erase {n : Nat} {fl : FL} {f : MF} (h : FR n fl f) (s q : Int32) : OpR n (erO fl s q) (erM f s q) := by
  obtain ⟨ns, np, nh, nc, t, dh, cu, htn, h⟩ := h
  unfold erO erM
  refine OpR_if (not_congr h.ijS) (fun _ => rfl) (fun c1 => ?_)
  refine OpR_if (not_congr h.ijH) (fun _ => rfl) (fun c3 => ?_)
  obtain ⟨i, hi, rfl⟩ := h.iS.mp (Decidable.not_not.mp c1)
  obtain ⟨k, hk, rfl⟩ := h.iH.mp (Decidable.not_not.mp c3)
  obtain ⟨a, ha, e1, e2⟩ := h.pD hi hk
  rw [e1, e2]
  obtain ⟨q1, q2, -⟩ := m1_iff ha
  refine OpR_if (by rw [q1, q2]; omega) (fun _ => rfl) (fun c4 => ?_)
  rw [q1] at c4
  have e : nI a - 1 = nI (a - 1) := nI_sub (b := 1) (by omega)
  refine ⟨rfl, by show ¬ nI a - 1 = -1; rw [e]; exact nI_n1 (by omega), ns, np, nh, nc, t, dh, cu, htn, ?_⟩
  exact h.draw (v := -1) (a := 0) hi hk (by omega) rfl
theorem op_water {n : Nat} {fl : FL} {f : MF} (h : FR n fl f) (u : Int32) : OpR n (bwO fl u) (waM f u) := by
  obtain ⟨ns, np, nh, nc, t, dh, cu, htn, h⟩ := h
  obtain ⟨⟨b1, b2, b3, b4, b5, b6, b7⟩, ⟨z0, z1, z2, z3, z4, z5, z6, z7, z8⟩, ⟨m1, m2, m3, m4⟩, ht, hd, ⟨hc1, hc2⟩, h8, h7, hS, hP, hD, hC⟩ := h
  unfold bwO waM
  have hz9 : (u < 1 ∨ ¬ u ≤ 100) ↔ ¬ inB u 1 100 := by
    unfold inB
    rw [Int32.lt_iff_toInt_lt, Int32.le_iff_toInt_le, Int32.lt_iff_toInt_lt, show (1 : Int32).toInt = 1 from rfl]
    omega
  refine OpR_if hz9 (fun _ => rfl) (fun c1 => ?_)
  have c3 : inB u 1 100 := Decidable.not_not.mp (fun q => c1 (hz9.mpr q))
  obtain ⟨y, hy2, rfl⟩ : ∃ y, y ≤ 100 ∧ u = nI y := by
    have q0 : ¬ u < 0 := fun q => c3.1 (Int32.lt_of_lt_of_le q (by decide))
    obtain ⟨j, hj, rfl⟩ := nI_of q0
    refine ⟨j, ?_, rfl⟩
    rcases Nat.lt_or_ge 100 j with q | q
    · exact absurd (nI_lt (a := 100) q hj) c3.2
    · exact q
  rw [hc1, hc2, nI_add]
  refine OpR_if Iff.rfl (fun _ => rfl) (fun c4 => ?_)
  have c5 : cu + y ≤ 200 := (nI_leI (b := 200) (by omega) (by decide)).mp (Decidable.not_not.mp c4)
  refine ⟨rfl, nI_n1 (by omega), ns, np, nh, nc, t, dh, cu + y, htn, ?_⟩
  show FP ns np nh nc t dh (cu + y) (up2 fl 9 3 (nI (cu + y))) (upd f 6 (nI (cu + y)))
  have lo : ∀ j, j ≠ 6 → upd f 6 (nI (cu + y)) j = f j := fun j h1 => upd_ne h1
  refine ⟨⟨b1, b2, b3, b4, b5, b6, c5⟩, ⟨z0, z1, z2, z3, z4, z5, z6, z7, z8⟩, ⟨m1, m2, m3, m4⟩, ⟨ht.1, ht.2⟩, ⟨hd.1, hd.2⟩, ⟨up2_at, upd_at⟩, h8, h7, ?_, ?_, ?_, ?_⟩
  · exact hS.of (fun k hk => rfl) (fun k hk => lo _ (by omega))
  · exact hP.of b2 (fun k hk => ⟨rfl, rfl⟩) (fun j h1 h2 => lo j (by omega))
  · exact hD.of b3 rfl (fun j h1 h2 => lo j (by omega))
  · exact hC.of (fun k hk => ⟨rfl, rfl, rfl, rfl⟩) (fun j h1 h2 => lo j (by omega))
