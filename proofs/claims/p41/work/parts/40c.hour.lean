/-! HOURS: thirst grows, lost camels stay lost -/
def lcN (fl : FL) : Nat → Nat
  | 0 => 0
  | n + 1 => lcN fl n + (if fl 5 n = nI 20 then 1 else 0)
theorem lcN_s {fl : FL} {n : Nat} : lcN fl (n + 1) = lcN fl n + (if fl 5 n = nI 20 then 1 else 0) := rfl
theorem lcN_le {fl : FL} : ∀ n, lcN fl n ≤ n
  | 0 => Nat.le_refl _
  | n + 1 => by
    have := lcN_le (fl := fl) n
    rw [lcN_s]
    split <;> omega
theorem lcN_mono {fl fl' : FL} : ∀ n, (∀ k, k < n → fl 5 k = nI 20 → fl' 5 k = nI 20) → lcN fl n ≤ lcN fl' n
  | 0, _ => Nat.le_refl _
  | n + 1, h => by
    have h1 := lcN_mono n (fun k hk => h k (by omega))
    rw [lcN_s, lcN_s]
    by_cases hq : fl 5 n = nI 20
    · rw [if_pos hq, if_pos (h n (by omega) hq)]; omega
    · rw [if_neg hq]; split <;> omega
theorem FI.lostN {ns np nh nc t dh cu : Nat} {fl : FL} (h : FI ns np nh nc t dh cu fl) : clF fl = nI (lcN fl nc) := by
  have z4 : fl 8 4 = nI nc := h.2.1.2.2.2.2.1
  have b4 := h.1.2.2.2.1
  unfold clF
  rw [z4, nI_clamp (by omega)]
  have hl : ∀ n, n ≤ nc → itr (clS fl) 0 n = nI (lcN fl n) := by
    intro n hn
    induction n with
    | zero => rfl
    | succ n ih =>
      show clS fl n (itr (clS fl) 0 n) = _
      rw [ih (by omega)]
      unfold clS
      obtain ⟨a, u, b, -, hu, -, -, e2, -⟩ := h.2.2.2.2.2.2.2.2 n (by omega)
      have hli : lostP fl (nI n) ↔ fl 5 n = nI 20 := by
        show ¬ gTh fl (nI n) < nI 20 ↔ _
        rw [h.pTh (by omega), e2, nI_ltI (by omega) (by decide), nI_eq (by omega) (by decide)]
        omega
      rw [lcN_s]
      by_cases hq : fl 5 n = nI 20
      · rw [if_pos (hli.mpr hq), if_pos hq, nI_1]
      · rw [if_neg (fun q => hq (hli.mp q)), if_neg hq, Int32.add_zero, Nat.add_zero]
  exact hl nc (Nat.le_refl _)
theorem hr_pass {nc H : Nat} {fl0 : FL} (hnc : nc ≤ 6) (hH : H ≤ 18) (z4 : fl0 8 4 = nI nc ∧ fl0 8 5 = nI nc ∧ fl0 8 6 = nI nc) (hC : FIc nc fl0) :
    ∀ n, n ≤ nc → (∀ r, r ≠ 4 → r ≠ 5 → itr (phS (nI H)) fl0 n r = fl0 r) ∧ FIc nc (itr (phS (nI H)) fl0 n) ∧ (∀ k, k < nc → fl0 5 k = nI 20 → itr (phS (nI H)) fl0 n 5 k = nI 20) := by
  intro n hn
  induction n with
  | zero => exact ⟨fun _ _ _ => rfl, hC, fun _ _ h => h⟩
  | succ n ih =>
    obtain ⟨i1, i2, i3⟩ := ih (by omega)
    rw [show itr (phS (nI H)) fl0 (n + 1) = phS (nI H) n (itr (phS (nI H)) fl0 n) from rfl]
    generalize itr (phS (nI H)) fl0 n = fl at *
    obtain ⟨a, u, b, h1, h2, h3, h4, h5, h6⟩ := i2 n (by omega)
    have y4 : fl 8 4 = nI nc := by rw [i1 8 (by omega) (by omega)]; exact z4.1
    have y5 : fl 8 5 = nI nc := by rw [i1 8 (by omega) (by omega)]; exact z4.2.1
    obtain ⟨u', hu'⟩ : ∃ u', u' = min 20 (u + H / 4) := ⟨_, rfl⟩
    have et : thF fl (nI H) (nI n) = up1 fl 5 (upd (fl 5) n (nI u')) := by
      unfold thF
      show up1 fl 5 (rset 6 (fl 8 5) (fl 5) (nI n) (minI (nI 20) (rget 6 (fl 8 5) (fl 5) (nI n) + nI H / nI 4))) = _
      rw [y5, rset_k (by omega) hnc (by decide), rget_k (by omega) hnc (by decide), h5, nI_div (by omega) (by decide), nI_add, minI_n (by decide) (by omega), hu']
    have hX : ∀ X : FL, X = up1 fl 5 (upd (fl 5) n (nI u')) → (∀ r, r ≠ 4 → r ≠ 5 → X r = fl0 r) ∧ FIc nc X ∧ (∀ k, k < nc → fl0 5 k = nI 20 → X 5 k = nI 20) := by
      rintro X rfl
      refine ⟨fun r q4 q5 => by rw [up1_ne q5, i1 r q4 q5], fun k hk => ?_, fun k hk hk20 => ?_⟩
      · have v5 : (up1 fl 5 (upd (fl 5) n (nI u'))) 5 = upd (fl 5) n (nI u') := rfl
        have v4 : (up1 fl 5 (upd (fl 5) n (nI u'))) 4 = fl 4 := rfl
        have v6 : (up1 fl 5 (upd (fl 5) n (nI u'))) 6 = fl 6 := rfl
        rw [v4, v5, v6]
        by_cases hkn : k = n
        · subst hkn; exact ⟨a, u', b, h1, by omega, h3, h4, upd_at, h6⟩
        · rw [upd_ne hkn]; exact i2 k hk
      · rw [up1_at]
        by_cases hkn : k = n
        · subst hkn
          have h9 := i3 k hk hk20
          rw [h5] at h9
          have := (nI_eq (by omega) (by decide)).mp h9
          rw [upd_at]
          congr 1
          omega
        · rw [upd_ne hkn]; exact i3 k hk hk20
    unfold phS
    rw [et]
    generalize hXe : up1 fl 5 (upd (fl 5) n (nI u')) = X
    obtain ⟨x1, x2, x3⟩ := hX X hXe.symm
    by_cases hq : ¬ nI H < 6 ∧ roamP X (nI n)
    · rw [if_pos hq]
      unfold strayF
      obtain ⟨w, hw, ew⟩ := nearPl_b (gCa X (nI n) + if nI n - nI n / 2 * 2 = 0 then 3 else -3)
      have x84 : X 8 4 = nI nc := by rw [x1 8 (by omega) (by omega)]; exact z4.1
      rw [ew, x84, rset_k (by omega) hnc (by decide)]
      refine ⟨fun r q4 q5 => by rw [up1_ne q4, x1 r q4 q5], fun k hk => ?_, fun k hk hk20 => by rw [up1_ne (by omega)]; exact x3 k hk hk20⟩
      obtain ⟨a1, u1, b1, k1, k2, k3, k4, k5, k6⟩ := x2 k hk
      rw [up1_at, up1_ne (k := 4) (j := 5) (by omega), up1_ne (k := 4) (j := 6) (by omega)]
      by_cases hkn : k = n
      · subst hkn; exact ⟨w, u1, b1, hw, k2, k3, upd_at, k5, k6⟩
      · rw [upd_ne hkn]; exact ⟨a1, u1, b1, k1, k2, k3, k4, k5, k6⟩
    · rw [if_neg hq]
      exact ⟨x1, x2, x3⟩
theorem FI.hour {ns np nh nc t dh cu : Nat} {fl : FL} (h : FI ns np nh nc t dh cu fl) (ht1 : t + 1 < 2 ^ 30) : FI ns np nh nc (t + 1) dh cu (phF fl) ∧ (∀ k, k < nc → fl 5 k = nI 20 → phF fl 5 k = nI 20) ∧ phF fl 0 = fl 0 := by
  have h0 := h
  have hH := h.hle (t' := t)
  obtain ⟨⟨b1, b2, b3, b4, b5, b6, b7⟩, ⟨z0, z1, z2, z3, z4, z5, z6, z7, z8⟩, ht, hd, hc, hS, hP, hD, hC⟩ := h
  obtain ⟨r, i2, i3⟩ := hr_pass (H := hT dh t) b4 hH ⟨z4, z5, z6⟩ hC nc (Nat.le_refl _)
  have e1 : phF fl = up2 (itr (phS (nI (hT dh t))) fl nc) 9 1 (itr (phS (nI (hT dh t))) fl nc 9 1 + 1) := by
    unfold phF
    rw [h0.heat, z4, nI_clamp (by omega)]
  rw [e1]
  generalize itr (phS (nI (hT dh t))) fl nc = fl1 at *
  have r8 := r 8 (by omega) (by omega)
  have r9 := r 9 (by omega) (by omega)
  have s8 : up2 fl1 9 1 (fl1 9 1 + 1) 8 = fl 8 := (up2_nk (by omega)).trans r8
  have s9 : ∀ i, i ≠ 1 → up2 fl1 9 1 (fl1 9 1 + 1) 9 i = fl 9 i := fun i hi => (up2_ni hi).trans (by rw [r9])
  have sr : ∀ q, q < 4 ∨ q = 6 ∨ q = 7 → up2 fl1 9 1 (fl1 9 1 + 1) q = fl q := fun q hq => (up2_nk (by omega)).trans (r q (by omega) (by omega))
  refine ⟨⟨⟨b1, b2, b3, b4, ht1, b6, b7⟩, ⟨by rw [s8]; exact z0, by rw [s8]; exact z1, by rw [s8]; exact z2, by rw [s8]; exact z3, by rw [s8]; exact z4, by rw [s8]; exact z5, by rw [s8]; exact z6, by rw [s8]; exact z7, by rw [s9 0 (by omega)]; exact z8⟩, by rw [up2_at, r9, ht, nI_1], by rw [s9 2 (by omega)]; exact hd, by rw [s9 3 (by omega)]; exact hc, ?_, ?_, ?_, ?_⟩, fun k hk hq => ?_, sr 0 (by omega)⟩
  · exact hS.of (fun k hk => by rw [sr 0 (by omega)])
  · exact hP.of (fun k hk => ⟨by rw [sr 1 (by omega)], by rw [sr 2 (by omega)]⟩)
  · exact hD.of (sr 3 (by omega))
  · exact i2.of (fun k hk => ⟨by rw [up2_nk (by omega)], by rw [up2_nk (by omega)], by rw [up2_nk (by omega)]⟩)
  · rw [up2_nk (by omega)]; exact i3 k hk hq
theorem FI.hours {ns np nh nc t dh cu : Nat} {fl : FL} (h : FI ns np nh nc t dh cu fl) : ∀ y, t + y < 2 ^ 30 → FI ns np nh nc (t + y) dh cu (itr phX fl y) ∧ (∀ k, k < nc → fl 5 k = nI 20 → itr phX fl y 5 k = nI 20) ∧ itr phX fl y 0 = fl 0
  | 0, _ => ⟨h, fun _ _ q => q, rfl⟩
  | y + 1, hy => by
    obtain ⟨q1, q2, q3⟩ := h.hours y (by omega)
    obtain ⟨r1, r2, r3⟩ := q1.hour (by omega)
    exact ⟨r1, fun k hk q => r2 k hk (q2 k hk q), r3.trans q3⟩
theorem FI.hoursV {ns np nh nc t dh cu : Nat} {fl : FL} (h : FI ns np nh nc t dh cu fl) {y : Nat} (hy : t + y < 2 ^ 30) : ∃ v, v < 2 ^ 31 ∧ clF (itr phX fl y) - clF fl = nI v := by
  obtain ⟨q1, q2, q3⟩ := h.hours y hy
  have hm := lcN_mono nc q2
  have hl := lcN_le (fl := itr phX fl y) nc
  have b4 := h.1.2.2.2.1
  rw [q1.lostN, h.lostN, nI_sub hm]
  exact ⟨_, by omega, rfl⟩
theorem oi_ph {n : Nat} {fl : FL} (h : GI n fl) (hn : n + 48 < 2 ^ 30) (u : Int32) : OpI (n + 48) (phO fl u) := by
  obtain ⟨ns, np, nh, nc, t, dh, cu, htn, h⟩ := h
  unfold phO
  refine OpI_if (fun _ => trivial) (fun c1 => ?_)
  obtain ⟨y, hy2, rfl⟩ := rng_of (z := u) (m := 48) (by decide) (fun q => c1 (Or.inl (Int32.lt_of_lt_of_le q (by decide)))) (Decidable.not_not.mp (fun q => c1 (Or.inr q)))
  rw [nI_clamp (by omega)]
  exact ⟨h.hoursV (by omega), ns, np, nh, nc, t + y, dh, cu, by omega, (h.hours y (by omega)).1⟩
theorem ph_ok {ns np nh nc t dh cu y : Nat} {fl : FL} (h : FI ns np nh nc t dh cu fl) (hy1 : 1 ≤ y) (hy2 : y ≤ 48) (ht : t + y < 2 ^ 30) : ∃ v fl', v < 2 ^ 31 ∧ phO fl (nI y) = .inl (nI v, fl') ∧ FI ns np nh nc (t + y) dh cu fl' ∧ fl' 0 = fl 0 := by
  obtain ⟨v, hv, ev⟩ := h.hoursV ht
  obtain ⟨q1, q2, q3⟩ := h.hours y ht
  refine ⟨v, _, hv, ?_, q1, q3⟩
  unfold phO
  rw [if_neg, nI_clamp (by omega), ev]
  rintro (q | q)
  · exact nI_nlt (b := 1) (a := y) hy1 (by omega) q
  · exact q (nI_le (b := 48) hy2 (by decide))
/-- a command -/
theorem oi_co {n : Nat} {fl : FL} (h : GI n fl) (hn : n + 48 < 2 ^ 30) (v a b d : Int32) : OpI (n + 48) (coO v a b d fl) := by
  have hle : n ≤ n + 48 := by omega
  unfold coO
  exact OpI_if (fun _ => (oi_rb h a).mono hle) (fun _ => OpI_if (fun _ => (oi_wc h a).mono hle) (fun _ => OpI_if (fun _ => (oi_er h a b).mono hle) (fun _ => OpI_if (fun _ => (oi_lo h a).mono hle) (fun _ => OpI_if (fun _ => (oi_sg h a b d).mono hle) (fun _ => OpI_if (fun _ => (oi_ti h a).mono hle) (fun _ => oi_ph h hn a))))))
/-- drawn places -/
theorem cd_n {fl : FL} {o : Int32} : ∀ n, ∃ c, c ≤ n ∧ itr (cdS fl o) 0 n = nI c
  | 0 => ⟨0, by omega, rfl⟩
  | n + 1 => by
    obtain ⟨c, h1, h2⟩ := cd_n (fl := fl) (o := o) n
    show ∃ c, c ≤ n + 1 ∧ cdS fl o n (itr (cdS fl o) 0 n) = nI c
    rw [h2]
    unfold cdS
    by_cases hq : ¬ gDr fl (nI n) = -1 ∧ (gDr fl (nI n) = gS fl (nI n - nI n / 10 * 10) ∨ o = 0)
    · rw [if_pos hq, nI_1]; exact ⟨c + 1, by omega, rfl⟩
    · rw [if_neg hq]; exact ⟨c, by omega, rfl⟩
theorem FI.drawn {ns np nh nc t dh cu : Nat} {fl : FL} (h : FI ns np nh nc t dh cu fl) (o : Int32) : ∃ c, c ≤ 30 ∧ cdF fl o = nI c := by
  unfold cdF
  rw [h.2.1.2.2.2.1, nI_clamp (by omega)]
  exact cd_n 30
