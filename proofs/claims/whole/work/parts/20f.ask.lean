/-! THE QUESTIONS on both sides -/
theorem itr_add {α : Type} {st : Nat → α → α} {a : α} {m : Nat} : ∀ n, itr st a (m + n) = itr (fun k => st (m + k)) (itr st a m) n
  | 0 => rfl
  | n + 1 => by
    show st (m + n) (itr st a (m + n)) = st (m + n) (itr (fun k => st (m + k)) (itr st a m) n)
    rw [itr_add n]
theorem itr_id {α : Type} {st : Nat → α → α} {a : α} : ∀ n, (∀ k x, k < n → st k x = x) → itr st a n = a
  | 0, _ => rfl
  | n + 1, h => by
    show st n (itr st a n) = a
    rw [h n _ (by omega), itr_id n (fun k x hk => h k x (by omega))]
section PU
variable {ns np nh nc t dh cu : Nat} {fl : FL} {f : MF}
theorem FP.wrong (h : FP ns np nh nc t dh cu fl f) {q : Nat} (hq : q < nh) : wbF fl (nI q) = itr (wbM f (nI q)) 0 (f 2).toNatClampNeg := by
  have z0 : fl 8 0 = nI ns := h.2.1.1
  have m1 : f 2 = nI ns := h.2.2.1.1
  have b1 := h.1.1
  unfold wbF
  rw [z0, m1, nI_clamp (by omega)]
  refine itr_congr ns (fun k x hk => ?_)
  unfold wbS wbM
  obtain ⟨a, ha, e1, e2⟩ := h.pD hk hq
  obtain ⟨b, hb, e3, e4⟩ := h.pS hk
  rw [e1, e2, e3, e4]
  obtain ⟨q1, q2, q3⟩ := m1_iff ha
  by_cases h0 : a = 0
  · rw [if_pos (q1.mpr h0), if_pos (q3.mpr h0), Int32.add_zero]
  · rw [if_neg (fun q => h0 (q1.mp q)), if_neg (fun q => h0 (q3.mp q))]
theorem FP.best (h : FP ns np nh nc t dh cu fl f) {s : Nat} (hs : s < ns) : bestF fl (nI s) = (itr (bpM f (nI s)) (-1, 0) (f 3).toNatClampNeg).1 ∧ (bestF fl (nI s) = -1 ∨ ∃ j, j < np ∧ bestF fl (nI s) = nI j) := by
  have z1 : fl 8 1 = nI np := h.2.1.2.1
  have m2 : f 3 = nI np := h.2.2.1.2.1
  have b2 := h.1.2.1
  unfold bestF
  rw [z1, m2, nI_clamp (by omega)]
  have hl := itr_rel (st := bpS fl (nI s)) (st' := bpM f (nI s)) (a := (-1 : Int32)) (b := ((-1 : Int32), (0 : Int32))) (R := fun n b q => b = q.1 ∧ (b = -1 ∨ ∃ j, j < n ∧ b = nI j ∧ q.2 = offM f (nI s) b)) ⟨rfl, Or.inl rfl⟩ np (fun n b q hn hR => by
    obtain ⟨r1, r2⟩ := hR
    unfold bpS bpM
    rw [h.heat, h.heatM0]
    by_cases hsh : shimF fl (nI s) (nI n) (nI (hT dh t))
    · rw [if_pos hsh, if_pos ((h.shim hs hn).mp hsh)]
      exact ⟨r1, r2.imp id (fun ⟨j, k1, k2⟩ => ⟨j, by omega, k2⟩)⟩
    · rw [if_neg hsh, if_neg (fun q9 => hsh ((h.shim hs hn).mpr q9))]
      rcases r2 with r2 | ⟨j, k1, k2, k3⟩
      · rw [if_pos (Or.inl r2), if_neg (fun q9 => q9.1 (by rw [← r1, r2]; decide))]
        exact ⟨rfl, Or.inr ⟨n, by omega, rfl, rfl⟩⟩
      · subst k2
        obtain ⟨x, hx, x1, x2⟩ := h.off hs hn
        obtain ⟨y, hy, y1, y2⟩ := h.off hs (q := j) (by omega)
        obtain ⟨-, zn, -, -, hzn, -, zn1, -, zn2⟩ := h.pP hn
        obtain ⟨-, zj, -, -, hzj, -, zj1, -, zj2⟩ := h.pP (k := j) (by omega)
        rw [k3, ← r1, x2, y2, zj2, zn2]
        have c1 : (nI j = -1 ∨ betF fl (nI s) (nI n) (nI j)) ↔ ¬ (y < x ∨ (x = y ∧ ¬ zj < zn)) := by
          show (nI j = -1 ∨ ((offF fl (nI s) (nI n) = offF fl (nI s) (nI j) ∧ ¬ gH fl (nI n) ≤ gH fl (nI j)) ∨ (¬ offF fl (nI s) (nI n) = offF fl (nI s) (nI j) ∧ ¬ offF fl (nI s) (nI j) ≤ offF fl (nI s) (nI n)))) ↔ _
          rw [x1, y1, zj1, zn1, nI_eq (by omega) (by omega), nI_leI (by omega) (by omega), nI_leI (by omega) (by omega)]
          have : ¬ nI j = -1 := nI_n1 (by omega)
          simp only [this, false_or]
          omega
        have c2 : (¬ nI j < 0 ∧ (nI y < nI x ∨ (nI x = nI y ∧ ¬ nI zj < nI zn))) ↔ (y < x ∨ (x = y ∧ ¬ zj < zn)) := by
          rw [nI_ltI (by omega) (by omega), nI_eq (by omega) (by omega), nI_ltI (by omega) (by omega)]
          have : ¬ nI j < 0 := nI_pos (by omega)
          simp only [this, not_false_eq_true, true_and]
        by_cases hc : y < x ∨ (x = y ∧ ¬ zj < zn)
        · rw [if_neg (fun q9 => c1.mp q9 hc), if_pos (c2.mpr hc)]
          exact ⟨r1, Or.inr ⟨j, by omega, rfl, k3⟩⟩
        · rw [if_pos (c1.mpr hc), if_neg (fun q9 => hc (c2.mp q9))]
          exact ⟨rfl, Or.inr ⟨n, by omega, rfl, x2.symm⟩⟩)
  exact ⟨hl.1, hl.2.imp id (fun ⟨j, k1, k2, _⟩ => ⟨j, k1, k2⟩)⟩
theorem FP.clear (h : FP ns np nh nc t dh cu fl f) {s q : Nat} (hs : s < ns) (hq : q < np) : clearF fl (nI s) (nI q) = fnd (fun k => decide (¬ shM f (nI s) (nI q) (mHb f (nI k)))) 24 0 := by
  unfold clearF
  refine fnd_congr _ _ (fun j h1 h2 => ?_)
  rw [decide_eq_decide, h.heatK (by omega), h.heatM (by omega), h.shim hs hq]
theorem FP.lostH (h : FP ns np nh nc t dh cu fl f) : ∀ (d k tm : Nat), k + d ≤ 48 → tm ≤ 24 → ∃ tm' h', tm' ≤ 24 ∧ h' ≤ 48 ∧ liM f d k (nI tm) = (nI tm', nI h') ∧ hulF (fl 9 2) (fl 9 1) (d + 1) k (nI (min 20 tm)) = if 20 ≤ tm' then nI h' else -1
  | 0, k, tm, hk, ht => by
    refine ⟨tm, k, ht, by omega, rfl, ?_⟩
    show (if ¬ nI (min 20 tm) < nI 20 then nI k else -1) = _
    have hlt : nI (min 20 tm) < nI 20 ↔ min 20 tm < 20 := nI_ltI (by omega) (by decide)
    by_cases hq : 20 ≤ tm
    · rw [if_pos hq, if_pos (fun q => by have := hlt.mp q; omega)]
    · rw [if_neg hq, if_neg (fun q => q (hlt.mpr (by omega)))]
  | d + 1, k, tm, hk, ht => by
    show ∃ tm' h', tm' ≤ 24 ∧ h' ≤ 48 ∧ (if nI 20 ≤ nI tm then (nI tm, nI k) else liM f d (k + 1) (nI tm + mHb f (nI k) / nI 4)) = (nI tm', nI h') ∧ (if ¬ nI (min 20 tm) < nI 20 then nI k else hulF (fl 9 2) (fl 9 1) (d + 1) (k + 1) (minI (nI 20) (nI (min 20 tm) + heatI (fl 9 2) (fl 9 1 + nI k) / nI 4))) = _
    have hH := h.hle (t' := t + k)
    have hlt : nI (min 20 tm) < nI 20 ↔ min 20 tm < 20 := nI_ltI (by omega) (by decide)
    have hle : nI 20 ≤ nI tm ↔ 20 ≤ tm := nI_leI (by decide) (by omega)
    by_cases hq : 20 ≤ tm
    · refine ⟨tm, k, ht, by omega, by rw [if_pos (hle.mpr hq)], ?_⟩
      rw [if_pos hq, if_pos (fun q => by have := hlt.mp q; omega)]
    · obtain ⟨tm', h', r1, r2, r3, r4⟩ := h.lostH d (k + 1) (tm + hT dh (t + k) / 4) (by omega) (by omega)
      refine ⟨tm', h', r1, r2, ?_, ?_⟩
      · rw [if_neg (fun q => hq (hle.mp q)), h.heatM (by omega), nI_div (by omega) (by decide), nI_add, r3]
      · rw [if_neg (fun q => q (hlt.mpr (by omega))), h.heatK (by omega), nI_div (by omega) (by decide), nI_add, minI_n (by decide) (by omega), ← r4]
        congr 2
        omega
theorem FP.lostI (h : FP ns np nh nc t dh cu fl f) {c : Nat} (hc : c < nc) : ∃ tm h', tm ≤ 24 ∧ h' ≤ 48 ∧ liM f 48 0 (mC f (nI c) 1) = (nI tm, nI h') ∧ lostF fl (nI c) = if 20 ≤ tm then nI h' else -1 := by
  obtain ⟨a, u, -, hu, -, -, e1, e2, -⟩ := h.pC hc
  obtain ⟨tm, h', r1, r2, r3, r4⟩ := h.lostH 48 0 u (by omega) (by omega)
  refine ⟨tm, h', r1, r2, by rw [e2, r3], ?_⟩
  unfold lostF
  rw [e1, ← r4]
  congr 2
  omega
theorem sub_n {x y : Nat} (hx : x < 2 ^ 30) (hy : y < 2 ^ 30) : (0 < nI x - nI y ↔ y < x) ∧ (nI x - nI y = 0 ↔ x = y) := by
  have e : (nI x - nI y).toInt = (x : Int) - y := by rw [nI_z (n := x) (by omega), nI_z (n := y) (by omega), zI_sub, zI_t (by omega) (by omega)]
  refine ⟨?_, ?_⟩
  · rw [Int32.lt_iff_toInt_lt, e, show (0 : Int32).toInt = 0 from rfl]
    omega
  · rw [← Int32.toInt_inj, e, show (0 : Int32).toInt = 0 from rfl]
    omega
theorem FP.nearest (h : FP ns np nh nc t dh cu fl f) {a : Nat} (ha : a < 100) : (nc = 0 ∧ ncF fl (nI a) = -1) ∨ (0 < nc ∧ (∃ j, j < nc ∧ ncF fl (nI a) = nI j) ∧ ncF fl (nI a) = itr (naS f (nI a)) 0 ((f 5).toNatClampNeg - 1)) := by
  have z4 : fl 8 4 = nI nc := h.2.1.2.2.2.2.1
  have m4 : f 5 = nI nc := h.2.2.1.2.2.2
  have b4 := h.1.2.2.2.1
  unfold ncF
  rw [z4, m4, nI_clamp (by omega)]
  rcases Nat.eq_zero_or_pos nc with h0 | h0
  · refine Or.inl ⟨h0, ?_⟩
    rw [h0]; rfl
  · refine Or.inr ⟨h0, ?_⟩
    have hl : ∀ n, n + 1 ≤ nc → (∃ j, j ≤ n ∧ itr (ncS fl (nI a)) (-1) (n + 1) = nI j) ∧ itr (ncS fl (nI a)) (-1) (n + 1) = itr (naS f (nI a)) 0 n := by
      intro n hn
      induction n with
      | zero =>
        have e : itr (ncS fl (nI a)) (-1) 1 = nI 0 := by
          show ncS fl (nI a) 0 (-1) = _
          unfold ncS
          rw [if_pos (Or.inl rfl)]
        exact ⟨⟨0, by omega, e⟩, e⟩
      | succ n ih =>
        obtain ⟨⟨j, i1, i2⟩, i3⟩ := ih (by omega)
        rw [show itr (ncS fl (nI a)) (-1) (n + 1 + 1) = ncS fl (nI a) (n + 1) (itr (ncS fl (nI a)) (-1) (n + 1)) from rfl, show itr (naS f (nI a)) 0 (n + 1) = naS f (nI a) n (itr (naS f (nI a)) 0 n) from rfl, ← i3, i2]
        obtain ⟨b1, u1, hb1, hu1, x1, x2, x3, x4, -⟩ := h.pC (k := n + 1) (by omega)
        obtain ⟨b2, u2, hb2, hu2, y1, y2, y3, y4, -⟩ := h.pC (k := j) (by omega)
        have d1 : dsN b1 a < 100 := by unfold dsN; omega
        have d2 : dsN b2 a < 100 := by unfold dsN; omega
        have c1 : (nI j = -1 ∨ nearP fl (nI a) (nI (n + 1)) (nI j)) ↔ ((dsN b1 a = dsN b2 a ∧ ¬ u1 ≤ u2) ∨ (¬ dsN b1 a = dsN b2 a ∧ ¬ dsN b2 a ≤ dsN b1 a)) := by
          show (nI j = -1 ∨ ((absI (gCa fl (nI (n + 1)) - nI a) = absI (gCa fl (nI j) - nI a) ∧ ¬ gTh fl (nI (n + 1)) ≤ gTh fl (nI j)) ∨ (¬ absI (gCa fl (nI (n + 1)) - nI a) = absI (gCa fl (nI j) - nI a) ∧ ¬ absI (gCa fl (nI j) - nI a) ≤ absI (gCa fl (nI (n + 1)) - nI a)))) ↔ _
          rw [x1, x3, y1, y3, absI_n (by omega) (by omega), absI_n (by omega) (by omega), nI_eq (by omega) (by omega), nI_leI (by omega) (by omega), nI_leI (by omega) (by omega)]
          have : ¬ nI j = -1 := nI_n1 (by omega)
          simp only [this, false_or]
        have c2 : (0 < naD f (nI a) (nI j) (nI (n + 1)) ∨ (naD f (nI a) (nI j) (nI (n + 1)) = 0 ∧ ¬ mC f (nI (n + 1)) 1 ≤ mC f (nI j) 1)) ↔ ((dsN b1 a = dsN b2 a ∧ ¬ u1 ≤ u2) ∨ (¬ dsN b1 a = dsN b2 a ∧ ¬ dsN b2 a ≤ dsN b1 a)) := by
          show (0 < absI (mC f (nI j) 0 - nI a) - absI (mC f (nI (n + 1)) 0 - nI a) ∨ (absI (mC f (nI j) 0 - nI a) - absI (mC f (nI (n + 1)) 0 - nI a) = 0 ∧ ¬ mC f (nI (n + 1)) 1 ≤ mC f (nI j) 1)) ↔ _
          rw [x2, x4, y2, y4, absI_n (by omega) (by omega), absI_n (by omega) (by omega), nI_leI (by omega) (by omega)]
          obtain ⟨s1, s2⟩ := sub_n (x := dsN b2 a) (y := dsN b1 a) (by omega) (by omega)
          rw [s1, s2]
          omega
        unfold ncS naS
        by_cases hc : (dsN b1 a = dsN b2 a ∧ ¬ u1 ≤ u2) ∨ (¬ dsN b1 a = dsN b2 a ∧ ¬ dsN b2 a ≤ dsN b1 a)
        · rw [if_pos (c1.mpr hc), if_pos (c2.mpr hc)]
          exact ⟨⟨n + 1, by omega, rfl⟩, rfl⟩
        · rw [if_neg (fun q => hc (c1.mp q)), if_neg (fun q => hc (c2.mp q))]
          exact ⟨⟨j, by omega, rfl⟩, rfl⟩
    obtain ⟨⟨j, i1, i2⟩, i3⟩ := hl (nc - 1) (by omega)
    rw [show nc - 1 + 1 = nc by omega] at i2 i3
    exact ⟨⟨j, by omega, i2⟩, i3⟩
theorem FP.drawn (h : FP ns np nh nc t dh cu fl f) {o : Int32} : cdF fl o = dwM f o ∧ ∃ c, c ≤ 30 ∧ dwM f o = nI c := by
  have h0 := h
  obtain ⟨⟨b1, b2, b3, b4, b5, b6, b7⟩, ⟨z0, z1, z2, z3, z4, z5, z6, z7, z8⟩, ⟨m1, m2, m3, m4⟩, -, -, -, -, -, -, -, ⟨hD1, hD2⟩, -⟩ := h
  have ecl : cdF fl o = itr (cdS fl o) 0 30 := by
    unfold cdF
    rw [z3, nI_clamp (by decide)]
  have edw : dwM f o = itr (dr2S f o) 0 nh := by
    unfold dwM
    rw [m3, nI_clamp (by omega)]
  have gd : ∀ i, i < 30 → gDr fl (nI i) = fl 3 i := fun i hi => by
    show rget 30 (fl 8 3) (fl 3) (nI i) = _
    rw [z3, rget_k hi (by omega) (by decide)]
  have hno : ∀ i k x, i < 3 → k < 10 → (nh ≤ i ∨ ns ≤ k) → cdS fl o (10 * i + k) x = x := fun i k x hi hk ho => by
    unfold cdS
    rw [gd _ (by omega), hD2 i hi k hk ho, if_neg (fun q => q.1 rfl)]
  have hyes : ∀ i k x, i < nh → k < ns → cdS fl o (10 * i + k) x = dr1S f o (nI i) k x := fun i k x hi hk => by
    obtain ⟨a, ha, e1, e2⟩ := h0.pD hk hi
    obtain ⟨b, hb, e3, e4⟩ := h0.pS hk
    obtain ⟨a', -, e5, e6⟩ := hD1 i hi k (by omega)
    have e7 : fl 3 (10 * i + k) = nI a - 1 := by
      have : drawnF fl (nI k) (nI i) = fl 3 (10 * i + k) := by
        show gDr fl (nI i * nI 10 + nI k) = _
        rw [nI_mul, nI_add, gd _ (by omega), show i * 10 + k = 10 * i + k by omega]
      rw [← this, e1]
    unfold cdS dr1S
    have e8 : nI (10 * i + k) - nI (10 * i + k) / 10 * 10 = nI k := by
      rw [show (10 : Int32) = nI 10 from rfl, nI_div (by omega) (by decide), nI_mul, nI_sub (by omega)]
      congr 1
      omega
    rw [gd _ (by omega), e7, e8, e2, e3, e4]
    obtain ⟨q1, q2, q3⟩ := m1_iff ha
    by_cases ha0 : a = 0
    · rw [if_neg (fun q => q.1 (q1.mpr ha0)), if_pos (q3.mpr ha0)]
    · rw [if_neg (c := nI a - 1 < 0) (fun q => ha0 (q3.mp q))]
      by_cases ho : o = 0
      · rw [if_pos ⟨fun q => ha0 (q1.mp q), Or.inr ho⟩, if_pos ho]
      · rw [if_neg (c := o = 0) ho]
        by_cases he : nI a - 1 = nI b
        · rw [if_pos ⟨fun q => ha0 (q1.mp q), Or.inl he⟩, if_pos he]
        · rw [if_neg (fun q => q.2.elim he ho), if_neg he]
  have hrow : ∀ i, i < nh → ∀ X, itr (fun k => cdS fl o (10 * i + k)) X 10 = itr (dr1S f o (nI i)) X ns := fun i hi X => by
    have e := itr_add (st := fun k => cdS fl o (10 * i + k)) (a := X) (m := ns) (10 - ns)
    rw [show ns + (10 - ns) = 10 by omega] at e
    rw [e, itr_id (10 - ns) (fun k x hk => hno i (ns + k) x (by omega) (by omega) (Or.inr (by omega)))]
    exact itr_congr ns (fun k x hk => hyes i k x hi hk)
  have hblk : ∀ i, i ≤ 3 → itr (cdS fl o) 0 (10 * i) = itr (dr2S f o) 0 (min i nh) := by
    intro i hi
    induction i with
    | zero => rw [Nat.zero_min]; rfl
    | succ i ih =>
      rw [show 10 * (i + 1) = 10 * i + 10 by omega, itr_add, ih (by omega)]
      by_cases hin : i < nh
      · rw [hrow i hin, show min (i + 1) nh = min i nh + 1 by omega]
        show _ = dr2S f o (min i nh) (itr (dr2S f o) 0 (min i nh))
        unfold dr2S
        rw [m1, nI_clamp (by omega), show min i nh = i by omega]
      · rw [show min (i + 1) nh = min i nh by omega, itr_id 10 (fun k x hk => hno i k x (by omega) hk (Or.inl (by omega)))]
  have e30 : itr (cdS fl o) 0 30 = itr (dr2S f o) 0 nh := by
    have := hblk 3 (by omega)
    rw [show min 3 nh = nh by omega] at this
    exact this
  have hbd : ∀ n, ∃ c, c ≤ n ∧ itr (cdS fl o) 0 n = nI c := by
    intro n
    induction n with
    | zero => exact ⟨0, by omega, rfl⟩
    | succ n ih =>
      obtain ⟨c, i1, i2⟩ := ih
      show ∃ c, c ≤ n + 1 ∧ cdS fl o n (itr (cdS fl o) 0 n) = nI c
      rw [i2]
      unfold cdS
      split
      · exact ⟨c + 1, by omega, nI_1 c⟩
      · exact ⟨c, by omega, rfl⟩
  obtain ⟨c, k1, k2⟩ := hbd 30
  rw [ecl, edw, ← e30]
  exact ⟨rfl, c, k1, k2⟩
theorem FP.thirst (h : FP ns np nh nc t dh cu fl f) : rsum 6 (fl 8 5) (fl 5) = itr (thS f) 0 (f 5).toNatClampNeg ∧ ∃ s, s ≤ 120 ∧ itr (thS f) 0 (f 5).toNatClampNeg = nI s := by
  have z5 : fl 8 5 = nI nc := h.2.1.2.2.2.2.2.1
  have m4 : f 5 = nI nc := h.2.2.1.2.2.2
  have b4 := h.1.2.2.2.1
  have h1 : ∀ n, n ≤ nc → itr (fun k a => a + rget 6 (fl 8 5) (fl 5) (nI k)) 0 n = itr (thS f) 0 n ∧ ∃ c, c ≤ 20 * n ∧ itr (thS f) 0 n = nI c := by
    intro n hn
    induction n with
    | zero => exact ⟨rfl, 0, by omega, rfl⟩
    | succ n ih =>
      obtain ⟨i1, c, i2, i3⟩ := ih (by omega)
      obtain ⟨a, u, -, hu, -, -, e1, e2, -⟩ := h.pC (k := n) (by omega)
      have e1 : rget 6 (fl 8 5) (fl 5) (nI n) = nI u := e1
      refine ⟨?_, c + u, by omega, ?_⟩
      · show itr _ 0 n + rget 6 (fl 8 5) (fl 5) (nI n) = itr (thS f) 0 n + mC f (nI n) 1
        rw [i1, e1, e2]
      · show itr (thS f) 0 n + mC f (nI n) 1 = _
        rw [i3, e2, nI_add]
  obtain ⟨i1, c, i2, i3⟩ := h1 nc (Nat.le_refl _)
  unfold rsum
  rw [m4, nI_clamp (by omega)]
  rw [show (fl 8 5).toNatClampNeg = nc by rw [z5, nI_clamp (by omega)]]
  exact ⟨i1, c, by omega, i3⟩
theorem FP.drunk (h : FP ns np nh nc t dh cu fl f) : rsum 6 (fl 8 7) (fl 7) = f 7 := by
  have z7 : fl 8 7 = nI nc := h.2.1.2.2.2.2.2.2.2.1
  have b4 := h.1.2.2.2.1
  have h7 : sum7 fl nc = f 7 := h.2.2.2.2.2.2.2.1
  unfold rsum
  rw [← h7, z7, nI_clamp (by omega)]
  exact itr_congr nc (fun k x hk => by rw [rget_k hk b4 (by decide)])
theorem FP.lostM2 (h : FP ns np nh nc t dh cu fl f) : clF fl = itr (clM f) 0 (f 5).toNatClampNeg := by
  have m4 : f 5 = nI nc := h.2.2.1.2.2.2
  have b4 := h.1.2.2.2.1
  rw [h.lostN, m4, nI_clamp (by omega)]
  have hl : ∀ n, n ≤ nc → itr (clM f) 0 n = nI (lc f n) := by
    intro n hn
    induction n with
    | zero => rfl
    | succ n ih =>
      show clM f n (itr (clM f) 0 n) = _
      rw [ih (by omega), lc_s]
      unfold clM
      have e : mC f (nI n) 1 = f (57 + 4 * n + 1) := mC_k (w := 1) (by omega) (by omega)
      show (if mC f (nI n) 1 = nI 20 then nI (lc f n) + 1 else nI (lc f n)) = _
      rw [e]
      by_cases hq : f (57 + 4 * n + 1) = nI 20
      · rw [if_pos hq, if_pos hq, nI_1]
      · rw [if_neg hq, if_neg hq, Nat.add_zero]
  exact (hl nc (Nat.le_refl _)).symm
end PU
