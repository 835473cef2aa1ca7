/-! camels on both sides: brought, watered, tied, called -/
theorem OpR.mono {n n' : Nat} {X : OR} {Y : MR} (h : OpR n X Y) (hn : n ≤ n') : OpR n' X Y := by
  cases X with
  | inl q =>
    cases Y with
    | inl r => exact ⟨h.1, h.2.1, h.2.2.mono hn⟩
    | inr r => exact h
  | inr q =>
    cases Y with
    | inl r => exact h
    | inr r => exact h
theorem op_camel {n : Nat} {fl : FL} {f : MF} (h : FR n fl f) (p : Int32) : OpR n (caO fl p) (caM f p) := by
  obtain ⟨ns, np, nh, nc, t, dh, cu, htn, h⟩ := h
  obtain ⟨⟨b1, b2, b3, b4, b5, b6, b7⟩, ⟨z0, z1, z2, z3, z4, z5, z6, z7, z8⟩, ⟨m1, m2, m3, m4⟩, ht, hd, hc, h8, h7, hS, hP, hD, hC⟩ := h
  unfold caO caM
  refine OpR_if (not_congr isPl_iff) (fun _ => rfl) (fun c1 => ?_)
  obtain ⟨a, ha, rfl⟩ := pl_of (Decidable.not_not.mp c1)
  refine OpR_if (by rw [z4, m4, nI_ltI (by omega) (by decide), show (6 : Int32) = nI 6 from rfl, nI_eq (by omega) (by decide)]; omega) (fun _ => rfl) (fun c2 => ?_)
  rw [z4, nI_ltI (by omega) (by decide)] at c2
  obtain ⟨e5, -⟩ := rAdd_k (v := 0) z5 (n := 6) (by omega) (by decide)
  generalize hA : rAdd fl 5 6 0 = A at *
  have y6 : A 8 6 = nI nc := by rw [e5, upR_z (by omega) (by omega), z6]
  obtain ⟨e6, -⟩ := rAdd_k (v := 0) y6 (n := 6) (by omega) (by decide)
  generalize hB : rAdd A 6 6 0 = B at *
  have y7 : B 8 7 = nI nc := by rw [e6, upR_z (by omega) (by omega), e5, upR_z (by omega) (by omega), z7]
  obtain ⟨e7, -⟩ := rAdd_k (v := 0) y7 (n := 6) (by omega) (by decide)
  generalize hC9 : rAdd B 7 6 0 = C at *
  have y4 : C 8 4 = nI nc := by rw [e7, upR_z (by omega) (by omega), e6, upR_z (by omega) (by omega), e5, upR_z (by omega) (by omega), z4]
  obtain ⟨e4, ev⟩ := rAdd_k (v := nI a) y4 (n := 6) (by omega) (by decide)
  generalize hD9 : rAdd C 4 6 (nI a) = D at *
  refine ⟨by rw [ev, m4], by show ¬ _ = _; rw [ev]; exact nI_n1 (by omega), ns, np, nh, nc + 1, t, dh, cu, htn, ?_⟩
  show FP ns np nh (nc + 1) t dh cu D (caF2 f (nI a))
  have ef : caF2 f (nI a) = upd (upd (upd (upd (upd (upd f 5 (nI (nc + 1))) (57 + 4 * nc + 0) 0) (57 + 4 * nc + 1) 0) (57 + 4 * nc + 2) 0) (57 + 4 * nc + 3) 0) (57 + 4 * nc + 0) (nI a) := by
    unfold caF2
    rw [m4, nI_1]
    show sC (sC (sC (sC (sC (upd f 5 (nI (nc + 1))) (nI nc) (nI 0) 0) (nI nc) (nI 1) 0) (nI nc) (nI 2) 0) (nI nc) (nI 3) 0) (nI nc) (nI 0) (nI a) = _
    rw [sC_k (by omega) (by omega), sC_k (by omega) (by omega), sC_k (by omega) (by omega), sC_k (by omega) (by omega), sC_k (by omega) (by omega)]
  have g0 : caF2 f (nI a) (57 + 4 * nc) = nI a := by rw [ef]; exact upd_at
  have g1 : caF2 f (nI a) (57 + 4 * nc + 1) = 0 := by rw [ef, upd_ne (by omega), upd_ne (by omega), upd_ne (by omega), upd_at]
  have g2 : caF2 f (nI a) (57 + 4 * nc + 2) = 0 := by rw [ef, upd_ne (by omega), upd_ne (by omega), upd_at]
  have g3 : caF2 f (nI a) (57 + 4 * nc + 3) = 0 := by rw [ef, upd_ne (by omega), upd_at]
  have g5 : caF2 f (nI a) 5 = nI (nc + 1) := by rw [ef, upd_ne (by omega), upd_ne (by omega), upd_ne (by omega), upd_ne (by omega), upd_ne (by omega), upd_at]
  have lo : ∀ j, j ≠ 5 → (j < 57 + 4 * nc ∨ 57 + 4 * nc + 3 < j) → caF2 f (nI a) j = f j := fun j h1 h2 => by rw [ef, upd_ne (by omega), upd_ne (by omega), upd_ne (by omega), upd_ne (by omega), upd_ne (by omega), upd_ne h1]
  generalize caF2 f (nI a) = f1 at *
  have r4 : D 4 = upd (fl 4) nc (nI a) := by rw [e4, upR_r (by omega), e7, upR_o (by omega) (by omega), e6, upR_o (by omega) (by omega), e5, upR_o (by omega) (by omega)]
  have r7 : D 7 = upd (fl 7) nc 0 := by rw [e4, upR_o (by omega) (by omega), e7, upR_r (by omega), e6, upR_o (by omega) (by omega), e5, upR_o (by omega) (by omega)]
  have r6 : D 6 = upd (fl 6) nc 0 := by rw [e4, upR_o (by omega) (by omega), e7, upR_o (by omega) (by omega), e6, upR_r (by omega), e5, upR_o (by omega) (by omega)]
  have r5 : D 5 = upd (fl 5) nc 0 := by rw [e4, upR_o (by omega) (by omega), e7, upR_o (by omega) (by omega), e6, upR_o (by omega) (by omega), e5, upR_r (by omega)]
  have ro : ∀ r, r < 4 ∨ 8 < r → D r = fl r := fun r hr => by rw [e4, upR_o (by omega) (by omega), e7, upR_o (by omega) (by omega), e6, upR_o (by omega) (by omega), e5, upR_o (by omega) (by omega)]
  have rz : ∀ r, r < 4 → D 8 r = fl 8 r := fun r hr => by rw [e4, upR_z (by omega) (by omega), e7, upR_z (by omega) (by omega), e6, upR_z (by omega) (by omega), e5, upR_z (by omega) (by omega)]
  have w4 : D 8 4 = nI (nc + 1) := by rw [e4, upR_sz]
  have w7 : D 8 7 = nI (nc + 1) := by rw [e4, upR_z (by omega) (by omega), e7, upR_sz]
  have w6 : D 8 6 = nI (nc + 1) := by rw [e4, upR_z (by omega) (by omega), e7, upR_z (by omega) (by omega), e6, upR_sz]
  have w5 : D 8 5 = nI (nc + 1) := by rw [e4, upR_z (by omega) (by omega), e7, upR_z (by omega) (by omega), e6, upR_z (by omega) (by omega), e5, upR_sz]
  have r9 := ro 9 (by omega)
  refine ⟨⟨b1, b2, b3, by omega, b5, b6, b7⟩, ⟨by rw [rz 0 (by omega), z0], by rw [rz 1 (by omega), z1], by rw [rz 2 (by omega), z2], by rw [rz 3 (by omega), z3], w4, w5, w6, w7, by rw [r9, z8]⟩, ⟨?_, ?_, ?_, g5⟩, ⟨by rw [r9]; exact ht.1, ?_⟩, ⟨by rw [r9]; exact hd.1, ?_⟩, ⟨by rw [r9]; exact hc.1, ?_⟩, ?_, ?_, ?_, ?_, ?_, ?_⟩
  · rw [lo _ (by omega) (by omega)]; exact m1
  · rw [lo _ (by omega) (by omega)]; exact m2
  · rw [lo _ (by omega) (by omega)]; exact m3
  · rw [lo _ (by omega) (by omega)]; exact ht.2
  · rw [lo _ (by omega) (by omega)]; exact hd.2
  · rw [lo _ (by omega) (by omega)]; exact hc.2
  · rw [lo _ (by omega) (by omega), r9]; exact h8
  · rw [lo _ (by omega) (by omega), ← h7]
    show sum7 D nc + D 7 nc = _
    rw [r7, upd_at, Int32.add_zero]
    exact sum7_of (fun k hk => by rw [r7, upd_ne (by omega)])
  · exact hS.of (fun k hk => by rw [ro 0 (by omega)]) (fun k hk => lo _ (by omega) (by omega))
  · exact hP.of b2 (fun k hk => ⟨by rw [ro 1 (by omega)], by rw [ro 2 (by omega)]⟩) (fun j h1 h2 => lo j (by omega) (by omega))
  · exact hD.of b3 (ro 3 (by omega)) (fun j h1 h2 => lo j (by omega) (by omega))
  · intro k hk
    rw [r4, r5, r6, r7]
    by_cases hkn : k = nc
    · subst hkn
      exact ⟨a, 0, ha, by omega, upd_at, g0, upd_at, g1, by rw [upd_at, g2], by rw [upd_at, g3], 0, by omega, g2⟩
    · obtain ⟨a', u, q1, q2, q3, q4, q5, q6, q7, q8, b, q9, q10⟩ := hC k (by omega)
      exact ⟨a', u, q1, q2, by rw [upd_ne hkn, q3], by rw [lo _ (by omega) (by omega), q4], by rw [upd_ne hkn, q5], by rw [lo _ (by omega) (by omega), q6], by rw [upd_ne hkn, q7, lo _ (by omega) (by omega)], by rw [upd_ne hkn, q8, lo _ (by omega) (by omega)], b, q9, by rw [lo _ (by omega) (by omega), q10]⟩
section PU
variable {ns np nh nc t dh cu : Nat} {fl : FL} {f : MF}
theorem FP.lost (h : FP ns np nh nc t dh cu fl f) {k : Nat} (hk : k < nc) : lostP fl (nI k) ↔ lostM f (nI k) := by
  obtain ⟨a, u, -, hu, -, -, e1, e2, -⟩ := h.pC hk
  show ¬ gTh fl (nI k) < 20 ↔ mC f (nI k) 1 = 20
  rw [e1, e2, show (20 : Int32) = nI 20 from rfl, nI_ltI (by omega) (by decide), nI_eq (by omega) (by decide)]
  omega
theorem FP.place (h : FP ns np nh nc t dh cu fl f) {k x : Nat} (hk : k < nc) (hx : x < 100) : FP ns np nh nc t dh cu (up1 fl 4 (upd (fl 4) k (nI x))) (upd f (57 + 4 * k) (nI x)) := by
  obtain ⟨⟨b1, b2, b3, b4, b5, b6, b7⟩, ⟨z0, z1, z2, z3, z4, z5, z6, z7, z8⟩, ⟨m1, m2, m3, m4⟩, ht, hd, hc, h8, h7, hS, hP, hD, hC⟩ := h
  have lo : ∀ j, j ≠ 57 + 4 * k → upd f (57 + 4 * k) (nI x) j = f j := fun j h1 => upd_ne h1
  refine ⟨⟨b1, b2, b3, b4, b5, b6, b7⟩, ⟨z0, z1, z2, z3, z4, z5, z6, z7, z8⟩, ⟨?_, ?_, ?_, ?_⟩, ⟨ht.1, ?_⟩, ⟨hd.1, ?_⟩, ⟨hc.1, ?_⟩, ?_, ?_, ?_, ?_, ?_, ?_⟩
  · rw [lo _ (by omega)]; exact m1
  · rw [lo _ (by omega)]; exact m2
  · rw [lo _ (by omega)]; exact m3
  · rw [lo _ (by omega)]; exact m4
  · rw [lo _ (by omega)]; exact ht.2
  · rw [lo _ (by omega)]; exact hd.2
  · rw [lo _ (by omega)]; exact hc.2
  · rw [lo _ (by omega)]; exact h8
  · rw [lo _ (by omega)]; exact h7
  · exact hS.of (fun k hk => rfl) (fun k hk => lo _ (by omega))
  · exact hP.of b2 (fun k hk => ⟨rfl, rfl⟩) (fun j h1 h2 => lo j (by omega))
  · exact hD.of b3 rfl (fun j h1 h2 => lo j (by omega))
  · intro i hi
    obtain ⟨a', u, q1, q2, q3, q4, q5, q6, q7, q8, b, q9, q10⟩ := hC i hi
    rw [up1_at]
    by_cases hik : i = k
    · subst hik
      exact ⟨x, u, hx, q2, upd_at, upd_at, q5, by rw [lo _ (by omega), q6], by rw [lo _ (by omega)]; exact q7, by rw [lo _ (by omega)]; exact q8, b, q9, by rw [lo _ (by omega), q10]⟩
    · exact ⟨a', u, q1, q2, by rw [upd_ne hik, q3], by rw [lo _ (by omega), q4], q5, by rw [lo _ (by omega), q6], by rw [lo _ (by omega)]; exact q7, by rw [lo _ (by omega)]; exact q8, b, q9, by rw [lo _ (by omega), q10]⟩
theorem FP.tied (h : FP ns np nh nc t dh cu fl f) : rsum 6 (fl 8 6) (fl 6) = tdM f ∧ ∃ c, c ≤ 6 ∧ tdM f = nI c := by
  obtain ⟨⟨b1, b2, b3, b4, b5, b6, b7⟩, ⟨z0, z1, z2, z3, z4, z5, z6, z7, z8⟩, ⟨m1, m2, m3, m4⟩, ht, hd, hc, h8, h7, hS, hP, hD, hC⟩ := h
  have h1 : ∀ n, n ≤ nc → itr (fun k a => a + rget 6 (fl 8 6) (fl 6) (nI k)) 0 n = itr (tdS f) 0 n ∧ ∃ c, c ≤ n ∧ itr (tdS f) 0 n = nI c := by
    intro n hn
    induction n with
    | zero => exact ⟨rfl, 0, by omega, rfl⟩
    | succ n ih =>
      obtain ⟨i1, c, i2, i3⟩ := ih (by omega)
      obtain ⟨a', u, q1, q2, q3, q4, q5, q6, q7, q8, b, q9, q10⟩ := hC n (by omega)
      have e2 : mC f (nI n) 2 = nI b := (mC_k (w := 2) (by omega) (by omega)).trans q10
      refine ⟨?_, c + b, by omega, ?_⟩
      · show itr _ 0 n + rget 6 (fl 8 6) (fl 6) (nI n) = itr (tdS f) 0 n + mC f (nI n) 2
        rw [i1, z6, rget_k (by omega) (by omega) (by decide), q7, q10, e2]
      · show itr (tdS f) 0 n + mC f (nI n) 2 = _
        rw [i3, e2, nI_add]
  obtain ⟨i1, c, i2, i3⟩ := h1 nc (Nat.le_refl _)
  unfold rsum tdM
  rw [z6, m4, nI_clamp (by omega)]
  rw [z6] at i1
  exact ⟨i1, c, by omega, i3⟩
theorem FP.tie (h : FP ns np nh nc t dh cu fl f) {k b : Nat} (hk : k < nc) (hb : b ≤ 1) : FP ns np nh nc t dh cu (tiF fl (nI k) (nI b)) (sC f (nI k) 2 (nI b)) := by
  obtain ⟨⟨b1, b2, b3, b4, b5, b6, b7⟩, ⟨z0, z1, z2, z3, z4, z5, z6, z7, z8⟩, ⟨m1, m2, m3, m4⟩, ht, hd, hc, h8, h7, hS, hP, hD, hC⟩ := h
  have e1 : tiF fl (nI k) (nI b) = up1 fl 6 (upd (fl 6) k (nI b)) := by
    show up1 fl 6 (rset 6 (fl 8 6) (fl 6) (nI k) (nI b)) = _
    rw [z6, rset_k hk b4 (by decide)]
  have e2 : sC f (nI k) 2 (nI b) = upd f (57 + 4 * k + 2) (nI b) := sC_k (w := 2) (by omega) (by omega)
  rw [e1, e2]
  have lo : ∀ j, j ≠ 57 + 4 * k + 2 → upd f (57 + 4 * k + 2) (nI b) j = f j := fun j h1 => upd_ne h1
  refine ⟨⟨b1, b2, b3, b4, b5, b6, b7⟩, ⟨z0, z1, z2, z3, z4, z5, z6, z7, z8⟩, ⟨?_, ?_, ?_, ?_⟩, ⟨ht.1, ?_⟩, ⟨hd.1, ?_⟩, ⟨hc.1, ?_⟩, ?_, ?_, ?_, ?_, ?_, ?_⟩
  · rw [lo _ (by omega)]; exact m1
  · rw [lo _ (by omega)]; exact m2
  · rw [lo _ (by omega)]; exact m3
  · rw [lo _ (by omega)]; exact m4
  · rw [lo _ (by omega)]; exact ht.2
  · rw [lo _ (by omega)]; exact hd.2
  · rw [lo _ (by omega)]; exact hc.2
  · rw [lo _ (by omega)]; exact h8
  · rw [lo _ (by omega)]; exact h7
  · exact hS.of (fun k hk => rfl) (fun k hk => lo _ (by omega))
  · exact hP.of b2 (fun k hk => ⟨rfl, rfl⟩) (fun j h1 h2 => lo j (by omega))
  · exact hD.of b3 rfl (fun j h1 h2 => lo j (by omega))
  · intro i hi
    obtain ⟨a', u, q1, q2, q3, q4, q5, q6, q7, q8, b', q9, q10⟩ := hC i hi
    rw [up1_at]
    by_cases hik : i = k
    · subst hik
      exact ⟨a', u, q1, q2, q3, by rw [lo _ (by omega), q4], q5, by rw [lo _ (by omega), q6], by rw [upd_at, upd_at], by rw [lo _ (by omega)]; exact q8, b, hb, upd_at⟩
    · exact ⟨a', u, q1, q2, q3, by rw [lo _ (by omega), q4], q5, by rw [lo _ (by omega), q6], by rw [upd_ne hik, lo _ (by omega)]; exact q7, by rw [lo _ (by omega)]; exact q8, b', q9, by rw [lo _ (by omega), q10]⟩
/-- how far the nearest post is -/
theorem FP.near (h : FP ns np nh nc t dh cu fl f) {k : Nat} (hk : k < nc) : (np = 0 ∧ fpF fl (gCa fl (nI k)) = -1) ∨ (0 < np ∧ ∃ m, m < 100 ∧ fpF fl (gCa fl (nI k)) = nI m ∧ neM f (nI k) = nI m) := by
  obtain ⟨a, u, ha, -, e1, e2, -⟩ := h.pC hk
  have h0 := h
  obtain ⟨⟨b1, b2, b3, b4, b5, b6, b7⟩, ⟨z0, z1, z2, z3, z4, z5, z6, z7, z8⟩, ⟨m1, m2, m3, m4⟩, -⟩ := h0
  have hl : ∀ n, n ≤ np → (n = 0 ∧ itr (fpS fl (nI a)) (-1) n = -1 ∧ itr (neS f (nI k)) 100 n = nI 100) ∨ (0 < n ∧ ∃ m, m < 100 ∧ itr (fpS fl (nI a)) (-1) n = nI m ∧ itr (neS f (nI k)) 100 n = nI m) := by
    intro n hn
    induction n with
    | zero => exact Or.inl ⟨rfl, rfl, rfl⟩
    | succ n ih =>
      refine Or.inr ⟨by omega, ?_⟩
      obtain ⟨b, z, hb, -, -, g1, -, g3, -⟩ := h.pP (k := n) (by omega)
      have f1 : itr (fpS fl (nI a)) (-1) (n + 1) = fpS fl (nI a) n (itr (fpS fl (nI a)) (-1) n) := rfl
      have f2 : itr (neS f (nI k)) 100 (n + 1) = neS f (nI k) n (itr (neS f (nI k)) 100 n) := rfl
      have hds : dsN b a < 100 := by unfold dsN; omega
      rcases ih (by omega) with ⟨h1, h2, h3⟩ | ⟨h1, m, h2, h3, h4⟩
      · rw [f1, f2, h2, h3]
        unfold fpS neS
        rw [g1, g3, e2, absI_n (by omega) (by omega), if_pos (Or.inl rfl)]
        exact ⟨dsN b a, hds, rfl, by rw [minI_n (by omega) (by omega), Nat.min_eq_right (by omega)]⟩
      · rw [f1, f2, h3, h4]
        unfold fpS neS
        rw [g1, g3, e2, absI_n (by omega) (by omega)]
        refine ⟨min m (dsN b a), by omega, ?_, minI_n (by omega) (by omega)⟩
        by_cases hm : m ≤ dsN b a
        · rw [if_neg (fun q => q.elim (nI_n1 (by omega)) (fun q => q (nI_le hm (by omega)))), Nat.min_eq_left hm]
        · rw [if_pos (Or.inr (nI_ge (by omega) (by omega))), Nat.min_eq_right (by omega)]
  rw [e1]
  unfold fpF neM
  rw [z1, m2, nI_clamp (by omega)]
  rcases hl np (Nat.le_refl _) with ⟨h1, h2, h3⟩ | ⟨h1, m, h2, h3, h4⟩
  · exact Or.inl ⟨h1, h2⟩
  · exact Or.inr ⟨h1, m, h2, h3, h4⟩
end PU
theorem op_loose {n : Nat} {fl : FL} {f : MF} (h : FR n fl f) (c : Int32) : OpR n (loO fl c) (loM f c) := by
  obtain ⟨ns, np, nh, nc, t, dh, cu, htn, h⟩ := h
  unfold loO loM
  refine OpR_if (not_congr h.ijC) (fun _ => rfl) (fun c1 => ?_)
  obtain ⟨k, hk, rfl⟩ := h.iC.mp (Decidable.not_not.mp c1)
  obtain ⟨a, u, ha, hu, e1, e2, e3, e4, e5, e6⟩ := h.pC hk
  refine OpR_if (by rw [e5]) (fun _ => rfl) (fun c2 => ?_)
  have hn := h.tie hk (b := 0) (by omega)
  obtain ⟨q1, y, q2, q3⟩ := hn.tied
  exact ⟨q1, by show ¬ _ = _; rw [show rsum 6 (tiF fl (nI k) 0 8 6) (tiF fl (nI k) 0 6) = nI y from q1.trans q3]; exact nI_n1 (by omega), ns, np, nh, nc, t, dh, cu, htn, hn⟩
theorem op_tie {n : Nat} {fl : FL} {f : MF} (h : FR n fl f) (c : Int32) : OpR n (tiO fl c) (tiM f c) := by
  obtain ⟨ns, np, nh, nc, t, dh, cu, htn, h⟩ := h
  unfold tiO tiM
  refine OpR_if (not_congr h.ijC) (fun _ => rfl) (fun c1 => ?_)
  obtain ⟨k, hk, rfl⟩ := h.iC.mp (Decidable.not_not.mp c1)
  obtain ⟨a, u, ha, hu, e1, e2, e3, e4, e5, e6⟩ := h.pC hk
  refine OpR_if (h.lost hk) (fun _ => by show (8, gCa fl (nI k)) = (8, mC f (nI k) 0); rw [e1, e2]) (fun c2 => ?_)
  refine OpR_if (by rw [e5]) (fun _ => rfl) (fun c3 => ?_)
  have hn := h.tie hk (b := 1) (by omega)
  obtain ⟨q1, y, q2, q3⟩ := hn.tied
  have hend : OpR n (.inl (rsum 6 (tiF fl (nI k) 1 8 6) (tiF fl (nI k) 1 6), tiF fl (nI k) 1)) (.inl (tdM (sC f (nI k) 2 1), sC f (nI k) 2 1)) := ⟨q1, by show ¬ _ = _; rw [show rsum 6 (tiF fl (nI k) 1 8 6) (tiF fl (nI k) 1 6) = nI y from q1.trans q3]; exact nI_n1 (by omega), ns, np, nh, nc, t, dh, cu, htn, hn⟩
  have m2 : f 3 = nI np := h.2.2.1.2.1
  have b2 := h.1.2.1
  rcases h.near hk with ⟨p0, p1⟩ | ⟨p0, m, p1, p2, p3⟩
  · rw [p1, if_pos (Or.inl rfl), if_pos rfl, m2, p0, if_pos (show nI 0 = 0 from rfl)]
    rfl
  · rw [m2, if_neg (c := nI np = 0) (fun q => by have := (nI_eq (b := 0) (by omega) (by decide)).mp q; omega), p2, p3]
    refine OpR_if ⟨fun q => q.elim (fun q => absurd q (nI_n1 (by omega))) id, Or.inr⟩ (fun _ => ?_) (fun _ => hend)
    rw [if_neg (nI_n1 (by omega))]
    rfl
theorem op_drink {n : Nat} {fl : FL} {f : MF} (h : FR n fl f) (c : Int32) : OpR n (wcO fl c) (drM f c) := by
  obtain ⟨ns, np, nh, nc, t, dh, cu, htn, h⟩ := h
  unfold wcO drM
  refine OpR_if (not_congr h.ijC) (fun _ => rfl) (fun c1 => ?_)
  obtain ⟨k, hk, rfl⟩ := h.iC.mp (Decidable.not_not.mp c1)
  obtain ⟨a, u, ha, hu, e1, e2, e3, e4, e5, e6⟩ := h.pC hk
  refine OpR_if (h.lost hk) (fun _ => by show (8, gCa fl (nI k)) = (8, mC f (nI k) 0); rw [e1, e2]) (fun c2 => ?_)
  refine OpR_if (by rw [e3, e4]) (fun _ => rfl) (fun c3 => ?_)
  obtain ⟨⟨b1, b2, b3, b4, b5, b6, b7⟩, ⟨z0, z1, z2, z3, z4, z5, z6, z7, z8⟩, ⟨m1, m2, m3, m4⟩, ht, hd, ⟨hc1, hc2⟩, h8, h7, hS, hP, hD, hC⟩ := h
  have ec : cupI fl (nI k) = nI ((u + 1) / 2) := by
    show (gTh fl (nI k) + 1) / nI 2 = _
    rw [e3, nI_1, nI_div (by omega) (by decide)]
  have em : cuM f (nI k) = nI ((u + 1) / 2) := by
    show (mC f (nI k) 1 + 1) / nI 2 = _
    rw [e4, nI_1, nI_div (by omega) (by decide)]
  refine OpR_if (by rw [ec, em, hc1, hc2]) (fun _ => by show (9, cupI fl (nI k) - fl 9 3) = (9, cuM f (nI k) - f 6); rw [ec, em, hc1, hc2]) (fun c4 => ?_)
  rw [ec, hc1, Decidable.not_not, nI_leI (by omega) (by omega)] at c4
  generalize hy : (u + 1) / 2 = y at *
  have f1 : wc3 fl (nI k) = up1 (up1 (up2 fl 9 3 (nI (cu - y))) 5 (upd (fl 5) k 0)) 7 (upd (fl 7) k (fl 7 k + nI y)) := by
    show up1 (up1 (up2 fl 9 3 (fl 9 3 - cupI fl (nI k))) 5 (rset 6 (fl 8 5) (fl 5) (nI k) 0)) 7 (rset 6 (fl 8 7) (fl 7) (nI k) (rget 6 (fl 8 7) (fl 7) (nI k) + cupI fl (nI k))) = _
    rw [ec, hc1, nI_sub c4, z5, z7, rset_k hk b4 (by decide), rset_k hk b4 (by decide), rget_k hk b4 (by decide)]
  have f2 : dr4 f (nI k) = upd (upd (upd (upd f 6 (nI (cu - y))) 7 (f 7 + nI y)) (57 + 4 * k + 1) 0) (57 + 4 * k + 3) (f (57 + 4 * k + 3) + nI y) := by
    show sC (sC (upd (upd f 6 (f 6 - cuM f (nI k))) 7 (upd f 6 (f 6 - cuM f (nI k)) 7 + cuM f (nI k))) (nI k) (nI 1) 0) (nI k) (nI 3) (mC (sC (upd (upd f 6 (f 6 - cuM f (nI k))) 7 (upd f 6 (f 6 - cuM f (nI k)) 7 + cuM f (nI k))) (nI k) (nI 1) 0) (nI k) (nI 3) + cuM f (nI k)) = _
    rw [em, hc2, nI_sub c4, upd_ne (j := 7) (by omega), sC_k (by omega) (by omega), mC_k (by omega) (by omega), sC_k (by omega) (by omega), upd_ne (j := 57 + 4 * k + 3) (by omega), upd_ne (j := 57 + 4 * k + 3) (by omega), upd_ne (j := 57 + 4 * k + 3) (by omega)]
  rw [f1, f2]
  have lo : ∀ j, j ≠ 6 → j ≠ 7 → j ≠ 57 + 4 * k + 1 → j ≠ 57 + 4 * k + 3 → upd (upd (upd (upd f 6 (nI (cu - y))) 7 (f 7 + nI y)) (57 + 4 * k + 1) 0) (57 + 4 * k + 3) (f (57 + 4 * k + 3) + nI y) j = f j := fun j h1 h2 h3 h4 => by rw [upd_ne h4, upd_ne h3, upd_ne h2, upd_ne h1]
  have g6 : upd (upd (upd (upd f 6 (nI (cu - y))) 7 (f 7 + nI y)) (57 + 4 * k + 1) 0) (57 + 4 * k + 3) (f (57 + 4 * k + 3) + nI y) 6 = nI (cu - y) := by rw [upd_ne (by omega), upd_ne (by omega), upd_ne (by omega), upd_at]
  have g7 : upd (upd (upd (upd f 6 (nI (cu - y))) 7 (f 7 + nI y)) (57 + 4 * k + 1) 0) (57 + 4 * k + 3) (f (57 + 4 * k + 3) + nI y) 7 = f 7 + nI y := by rw [upd_ne (by omega), upd_ne (by omega), upd_at]
  have gt : upd (upd (upd (upd f 6 (nI (cu - y))) 7 (f 7 + nI y)) (57 + 4 * k + 1) 0) (57 + 4 * k + 3) (f (57 + 4 * k + 3) + nI y) (57 + 4 * k + 1) = 0 := by rw [upd_ne (by omega), upd_at]
  have gd : upd (upd (upd (upd f 6 (nI (cu - y))) 7 (f 7 + nI y)) (57 + 4 * k + 1) 0) (57 + 4 * k + 3) (f (57 + 4 * k + 3) + nI y) (57 + 4 * k + 3) = f (57 + 4 * k + 3) + nI y := upd_at
  generalize upd (upd (upd (upd f 6 (nI (cu - y))) 7 (f 7 + nI y)) (57 + 4 * k + 1) 0) (57 + 4 * k + 3) (f (57 + 4 * k + 3) + nI y) = g at *
  refine ⟨g6.symm, nI_n1 (by omega), ns, np, nh, nc, t, dh, cu - y, htn, ?_⟩
  show FP ns np nh nc t dh (cu - y) (up1 (up1 (up2 fl 9 3 (nI (cu - y))) 5 (upd (fl 5) k 0)) 7 (upd (fl 7) k (fl 7 k + nI y))) g
  refine ⟨⟨b1, b2, b3, b4, b5, b6, by omega⟩, ⟨z0, z1, z2, z3, z4, z5, z6, z7, z8⟩, ⟨?_, ?_, ?_, ?_⟩, ⟨ht.1, ?_⟩, ⟨hd.1, ?_⟩, ⟨rfl, g6⟩, ?_, ?_, ?_, ?_, ?_, ?_⟩
  · rw [lo _ (by omega) (by omega) (by omega) (by omega)]; exact m1
  · rw [lo _ (by omega) (by omega) (by omega) (by omega)]; exact m2
  · rw [lo _ (by omega) (by omega) (by omega) (by omega)]; exact m3
  · rw [lo _ (by omega) (by omega) (by omega) (by omega)]; exact m4
  · rw [lo _ (by omega) (by omega) (by omega) (by omega)]; exact ht.2
  · rw [lo _ (by omega) (by omega) (by omega) (by omega)]; exact hd.2
  · rw [lo _ (by omega) (by omega) (by omega) (by omega)]; exact h8
  · rw [g7, ← h7]
    show itr (fun i a => a + upd (fl 7) k (fl 7 k + nI y) i) 0 nc = _
    rw [sum7_up, if_pos hk]
    rfl
  · exact hS.of (fun k hk => rfl) (fun k hk => lo _ (by omega) (by omega) (by omega) (by omega))
  · exact hP.of b2 (fun k hk => ⟨rfl, rfl⟩) (fun j h1 h2 => lo j (by omega) (by omega) (by omega) (by omega))
  · exact hD.of b3 rfl (fun j h1 h2 => lo j (by omega) (by omega) (by omega) (by omega))
  · intro i hi
    obtain ⟨a', u, q1, q2, q3, q4, q5, q6, q7, q8, b', q9, q10⟩ := hC i hi
    have r5 : (up1 (up1 (up2 fl 9 3 (nI (cu - y))) 5 (upd (fl 5) k 0)) 7 (upd (fl 7) k (fl 7 k + nI y))) 5 = upd (fl 5) k 0 := rfl
    rw [up1_at, r5]
    by_cases hik : i = k
    · subst hik
      exact ⟨a', 0, q1, by omega, q3, by rw [lo _ (by omega) (by omega) (by omega) (by omega), q4], upd_at, gt, by rw [lo _ (by omega) (by omega) (by omega) (by omega)]; exact q7, by rw [upd_at, gd, q8], b', q9, by rw [lo _ (by omega) (by omega) (by omega) (by omega), q10]⟩
    · exact ⟨a', u, q1, q2, q3, by rw [lo _ (by omega) (by omega) (by omega) (by omega), q4], by rw [upd_ne hik, q5], by rw [lo _ (by omega) (by omega) (by omega) (by omega), q6], by rw [lo _ (by omega) (by omega) (by omega) (by omega)]; exact q7, by rw [upd_ne hik, lo _ (by omega) (by omega) (by omega) (by omega)]; exact q8, b', q9, by rw [lo _ (by omega) (by omega) (by omega) (by omega), q10]⟩
/-- a camel is called on both sides -/
theorem FP.call {ns np nh nc t dh cu : Nat} {fl : FL} {f : MF} (h : FP ns np nh nc t dh cu fl f) {k a : Nat} (hk : k < nc) (ha : a < 100) : FP ns np nh nc t dh cu (callF fl (nI k) (nI a)) (riC f (nI k) (nI a)) := by
  obtain ⟨b, u, hb, hu, e1, e2, e3, e4, e5, e6⟩ := h.pC hk
  have hH := h.hle (t' := t)
  have hb4 := h.1.2.2.2.1
  have z4 : fl 8 4 = nI nc := h.2.1.2.2.2.2.1
  have hcond : (roamP fl (nI k) ∧ ¬ 30 - hNow fl < absI (nI a - gCa fl (nI k))) ↔ (mC f (nI k) 2 = 0 ∧ ¬ lostM f (nI k) ∧ ¬ 30 - mHb f 0 < absI (mC f (nI k) 0 - nI a)) := by
    show ((gTi fl (nI k) = 0 ∧ ¬ lostP fl (nI k)) ∧ _) ↔ _
    rw [e5, h.lost hk, h.heat, h.heatM0, e1, e2, absI_n (by omega) (by omega), absI_n (by omega) (by omega), dsN_com (a := a)]
    exact and_assoc
  unfold callF riC
  by_cases hc : roamP fl (nI k) ∧ ¬ 30 - hNow fl < absI (nI a - gCa fl (nI k))
  · rw [if_pos hc, if_pos (hcond.mp hc)]
    have hm : minI 10 (nI (dsN b a)) = nI (min 10 (dsN b a)) := minI_n (a := 10) (by decide) (by unfold dsN; omega)
    have hm2 : minI (nI (dsN a b)) 10 = nI (min 10 (dsN b a)) := by
      rw [dsN_com, Nat.min_comm]
      exact minI_n (b := 10) (by unfold dsN; omega) (by decide)
    rw [e1, e2, absI_n (by omega) (by omega), absI_n (by omega) (by omega), hm, hm2]
    have key : ∀ x, x < 100 → FP ns np nh nc t dh cu (up1 fl 4 (rset 6 (fl 8 4) (fl 4) (nI k) (nI x))) (sC f (nI k) 0 (nI x)) := fun x hx => by
      have h1 := h.place hk hx
      rw [z4, rset_k hk hb4 (by decide), show sC f (nI k) 0 (nI x) = upd f (57 + 4 * k) (nI x) from sC_k (w := 0) (by omega) (by omega)]
      exact h1
    unfold wayI
    by_cases hab : a ≤ b
    · rw [if_pos (nI_le hab (by omega)), nI_sub (by unfold dsN; omega)]
      have hx := key (b - min 10 (dsN b a)) (by omega)
      by_cases hlt : a < b
      · rw [if_pos (nI_lt hlt (by omega)), m1_mul, ← Int32.sub_eq_add_neg, nI_sub (by unfold dsN; omega)]
        exact hx
      · rw [if_neg (nI_nlt (by omega) (by omega)), Int32.one_mul, nI_add]
        have e0 : min 10 (dsN b a) = 0 := by unfold dsN; omega
        rw [e0] at hx ⊢
        exact hx
    · rw [if_neg (nI_ge (by omega) (by omega)), if_neg (nI_nlt (by omega) (by omega)), Int32.one_mul, nI_add]
      exact key (b + min 10 (dsN b a)) (by unfold dsN; omega)
  · rw [if_neg hc, if_neg (fun q => hc (hcond.mpr q))]
    exact h
theorem op_bell {n : Nat} {fl : FL} {f : MF} (h : FR n fl f) (p : Int32) : OpR n (rbO fl p) (riM f p) := by
  obtain ⟨ns, np, nh, nc, t, dh, cu, htn, h⟩ := h
  unfold rbO riM
  refine OpR_if (not_congr isPl_iff) (fun _ => rfl) (fun c1 => ?_)
  obtain ⟨a, ha, rfl⟩ := pl_of (Decidable.not_not.mp c1)
  have z4 : fl 8 4 = nI nc := h.2.1.2.2.2.2.1
  have m4 : f 5 = nI nc := h.2.2.1.2.2.2
  have hb4 := h.1.2.2.2.1
  rw [z4, m4, nI_clamp (by omega)]
  have hl := itr_rel (st := rbS (nI a)) (st' := riS (nI a)) (a := ((0 : Int32), fl)) (b := ((0 : Int32), f)) (R := fun k x y => x.1 = y.1 ∧ (∃ c, c ≤ k ∧ x.1 = nI c) ∧ FP ns np nh nc t dh cu x.2 y.2) ⟨rfl, ⟨0, by omega, rfl⟩, h⟩ nc (fun k x y hk hR => by
    obtain ⟨q1, ⟨c, q2, q3⟩, q4⟩ := hR
    have q5 := q4.call hk ha
    obtain ⟨b, u, hb, hu, e1, e2, e3, e4, e5, e6⟩ := q5.pC hk
    unfold rbS riS
    refine ⟨?_, ?_, q5⟩
    · show x.1 + (if gCa (callF x.2 (nI k) (nI a)) (nI k) = nI a then 1 else 0) = (if mC (riC y.2 (nI k) (nI a)) (nI k) 0 = nI a then y.1 + 1 else y.1)
      rw [e1, e2, q1]
      by_cases hb : nI b = nI a
      · rw [if_pos hb, if_pos hb]
      · rw [if_neg hb, if_neg hb, Int32.add_zero]
    · show ∃ c, c ≤ k + 1 ∧ x.1 + (if gCa (callF x.2 (nI k) (nI a)) (nI k) = nI a then 1 else 0) = nI c
      rw [q3]
      by_cases hb : gCa (callF x.2 (nI k) (nI a)) (nI k) = nI a
      · rw [if_pos hb, nI_1]; exact ⟨c + 1, by omega, rfl⟩
      · rw [if_neg hb, Int32.add_zero]; exact ⟨c, by omega, rfl⟩)
  obtain ⟨q1, ⟨c, q2, q3⟩, q4⟩ := hl
  exact ⟨q1, by show ¬ _ = _; rw [q3]; exact nI_n1 (by omega), ns, np, nh, nc, t, dh, cu, htn, q4⟩
