/-! hours on both sides -/
def nxA (H k a u b : Nat) : Nat := if 6 ≤ H ∧ b = 0 ∧ u < 20 then (if k % 2 = 0 then min 99 (a + 3) else a - 3) else a
theorem nxA_lt {H k a u b : Nat} (h : a < 100) : nxA H k a u b < 100 := by
  unfold nxA
  split
  · split <;> omega
  · exact h
/-- the camels' part while an hour passes: those of P have strayed in the class alone -/
def EqG (nc H : Nat) (P : Nat → Bool) (fl : FL) (f : MF) : Prop := ∀ k, k < nc → ∃ a u b, a < 100 ∧ u ≤ 20 ∧ b ≤ 1 ∧ fl 4 k = nI (if P k = true then nxA H k a u b else a) ∧ f (57 + 4 * k) = nI a ∧ fl 5 k = nI u ∧ f (57 + 4 * k + 1) = nI u ∧ fl 6 k = nI b ∧ f (57 + 4 * k + 2) = nI b ∧ fl 7 k = f (57 + 4 * k + 3)
theorem EqG.toC {nc H : Nat} {P : Nat → Bool} {fl : FL} {f : MF} (h : EqG nc H P fl f) (hP : ∀ k, k < nc → P k = false) : EqC nc fl f := fun k hk => by
  obtain ⟨a, u, b, h1, h2, h3, h4, h5, h6, h7, h8, h9, h10⟩ := h k hk
  rw [hP k hk] at h4
  exact ⟨a, u, h1, h2, h4, h5, h6, h7, h8.trans h9.symm, h10, b, h3, h9⟩
theorem EqC.toG {nc H : Nat} {P : Nat → Bool} {fl : FL} {f : MF} (h : EqC nc fl f) (hP : ∀ k, k < nc → P k = false) : EqG nc H P fl f := fun k hk => by
  obtain ⟨a, u, h1, h2, h3, h4, h5, h6, h7, h8, b, h9, h10⟩ := h k hk
  refine ⟨a, u, b, h1, h2, h9, ?_, h4, h5, h6, h7.trans h10, h10, h8⟩
  rw [hP k hk]
  exact h3
theorem EqG.cong {nc H : Nat} {P P' : Nat → Bool} {fl : FL} {f : MF} (h : EqG nc H P fl f) (hP : ∀ k, k < nc → P k = P' k) : EqG nc H P' fl f := fun k hk => by
  obtain ⟨a, u, b, h1, h2, h3, h4, r⟩ := h k hk
  exact ⟨a, u, b, h1, h2, h3, by rw [← hP k hk]; exact h4, r⟩
/-- how many camels are lost -/
def lc (f : MF) : Nat → Nat
  | 0 => 0
  | n + 1 => lc f n + (if f (57 + 4 * n + 1) = nI 20 then 1 else 0)
theorem lc_s {f : MF} {n : Nat} : lc f (n + 1) = lc f n + (if f (57 + 4 * n + 1) = nI 20 then 1 else 0) := rfl
theorem lc_cong {f g : MF} : ∀ n, (∀ k, k < n → g (57 + 4 * k + 1) = f (57 + 4 * k + 1)) → lc g n = lc f n
  | 0, _ => rfl
  | n + 1, h => by
    rw [lc_s, lc_s, lc_cong n (fun k hk => h k (by omega)), h n (by omega)]
theorem lc_le {f : MF} : ∀ n, lc f n ≤ n
  | 0 => Nat.le_refl _
  | n + 1 => by
    have := lc_le (f := f) n
    rw [lc_s]
    split <;> omega
theorem FP.lostN {ns np nh nc t dh cu : Nat} {fl : FL} {f : MF} (h : FP ns np nh nc t dh cu fl f) : clF fl = nI (lc f nc) := by
  have z4 : fl 8 4 = nI nc := h.2.1.2.2.2.2.1
  have b4 := h.1.2.2.2.1
  unfold clF
  rw [z4, nI_clamp (by omega)]
  have hl : ∀ n, n ≤ nc → itr (clS fl) 0 n = nI (lc f n) := by
    intro n hn
    induction n with
    | zero => rfl
    | succ n ih =>
      show clS fl n (itr (clS fl) 0 n) = _
      rw [ih (by omega)]
      unfold clS
      obtain ⟨a, u, -, hu, -, -, e1, e2, -⟩ := h.pC (k := n) (by omega)
      have e3 : f (57 + 4 * n + 1) = nI u := ((mC_k (w := 1) (by omega) (by omega)).symm.trans e2)
      have hli : lostP fl (nI n) ↔ f (57 + 4 * n + 1) = nI 20 := by
        rw [h.lost (by omega)]
        show mC f (nI n) 1 = nI 20 ↔ _
        rw [e2, e3]
      rw [lc_s]
      by_cases hq : f (57 + 4 * n + 1) = nI 20
      · rw [if_pos (hli.mpr hq), if_pos hq, nI_1]
      · rw [if_neg (fun q => hq (hli.mp q)), if_neg hq, Int32.add_zero, Nat.add_zero]
  exact hl nc (Nat.le_refl _)
theorem nearPl_m3 {a : Nat} (h : a < 100) : nearPl (nI a + -3) = nI (a - 3) := by
  rw [← Int32.sub_eq_add_neg]
  exact nearPl_dn (c := 3) h (by decide)
theorem par_n {k : Nat} (h : k < 2 ^ 31) : (nI k - nI k / 2 * 2 = 0) ↔ k % 2 = 0 := by
  rw [show (2 : Int32) = nI 2 from rfl, nI_div h (by decide), nI_mul, nI_sub (Nat.div_mul_le_self k 2), show (0 : Int32) = nI 0 from rfl, nI_eq (by omega) (by decide)]
  have := Nat.div_add_mod k 2
  omega
/-- the first pass: thirst on both sides, straying in the class -/
theorem pass1 {nc H : Nat} {fl0 : FL} {s0 : Int32 × MF} (hnc : nc ≤ 6) (hH : H ≤ 18) (z4 : fl0 8 4 = nI nc ∧ fl0 8 5 = nI nc ∧ fl0 8 6 = nI nc) (hC : EqC nc fl0 s0.2) {c0 : Nat} (hc : s0.1 = nI c0) :
    ∀ n, n ≤ nc → (∀ r, r ≠ 4 → r ≠ 5 → itr (phS (nI H)) fl0 n r = fl0 r) ∧ EqG nc H (fun k => decide (k < n)) (itr (phS (nI H)) fl0 n) (itr (p1S (nI H)) s0 n).2 ∧ (∀ k, n ≤ k → (itr (p1S (nI H)) s0 n).2 (57 + 4 * k + 1) = s0.2 (57 + 4 * k + 1)) ∧ ∃ c, (itr (p1S (nI H)) s0 n).1 = nI c ∧ c + lc s0.2 n = c0 + lc (itr (p1S (nI H)) s0 n).2 n := by
  intro n hn
  induction n with
  | zero => exact ⟨fun _ _ _ => rfl, hC.toG (fun k hk => by simp), fun _ _ => rfl, c0, hc, rfl⟩
  | succ n ih =>
    obtain ⟨i1, i2, i3, c, i4, i5⟩ := ih (by omega)
    rw [show itr (phS (nI H)) fl0 (n + 1) = phS (nI H) n (itr (phS (nI H)) fl0 n) from rfl, show itr (p1S (nI H)) s0 (n + 1) = p1S (nI H) n (itr (p1S (nI H)) s0 n) from rfl]
    generalize itr (phS (nI H)) fl0 n = fl at *
    generalize itr (p1S (nI H)) s0 n = s at *
    obtain ⟨a, u, b, h1, h2, h3, h4, h5, h6, h7, h8, h9, h10⟩ := i2 n (by omega)
    rw [if_neg (by simp)] at h4
    have y4 : fl 8 4 = nI nc := by rw [i1 8 (by omega) (by omega)]; exact z4.1
    have y5 : fl 8 5 = nI nc := by rw [i1 8 (by omega) (by omega)]; exact z4.2.1
    have y6 : fl 8 6 = nI nc := by rw [i1 8 (by omega) (by omega)]; exact z4.2.2
    obtain ⟨u', hu'⟩ : ∃ u', u' = min 20 (u + H / 4) := ⟨_, rfl⟩
    have et : thF fl (nI H) (nI n) = up1 fl 5 (upd (fl 5) n (nI u')) := by
      unfold thF
      show up1 fl 5 (rset 6 (fl 8 5) (fl 5) (nI n) (minI (nI 20) (rget 6 (fl 8 5) (fl 5) (nI n) + nI H / nI 4))) = _
      rw [y5, rset_k (by omega) hnc (by decide), rget_k (by omega) hnc (by decide), h6, nI_div (by omega) (by decide), nI_add, minI_n (by decide) (by omega), hu']
    -- what the class does
    have ec : phS (nI H) n fl = up1 (up1 fl 5 (upd (fl 5) n (nI u'))) 4 (upd (fl 4) n (nI (nxA H n a u' b))) := by
      unfold phS
      rw [et]
      generalize hX : up1 fl 5 (upd (fl 5) n (nI u')) = X
      have x4 : X 4 = fl 4 := by rw [← hX]; exact up1_ne (by omega)
      have x5 : X 5 = upd (fl 5) n (nI u') := by rw [← hX]; exact up1_at
      have x6 : X 6 = fl 6 := by rw [← hX]; exact up1_ne (by omega)
      have x8 : X 8 = fl 8 := by rw [← hX]; exact up1_ne (by omega)
      have g6 : gTi X (nI n) = nI b := by
        show rget 6 (X 8 6) (X 6) (nI n) = _
        rw [x8, y6, rget_k (by omega) hnc (by decide), x6, h8]
      have g5 : gTh X (nI n) = nI u' := by
        show rget 6 (X 8 5) (X 5) (nI n) = _
        rw [x8, y5, rget_k (by omega) hnc (by decide), x5, upd_at]
      have g4 : gCa X (nI n) = nI a := by
        show rget 6 (X 8 4) (X 4) (nI n) = _
        rw [x8, y4, rget_k (by omega) hnc (by decide), x4, h4]
      have hcond : (¬ nI H < 6 ∧ roamP X (nI n)) ↔ (6 ≤ H ∧ b = 0 ∧ u' < 20) := by
        show (¬ nI H < nI 6 ∧ (gTi X (nI n) = nI 0 ∧ ¬ ¬ gTh X (nI n) < nI 20)) ↔ _
        rw [g6, g5, nI_ltI (by omega) (by decide), nI_eq (by omega) (by decide), nI_ltI (by omega) (by decide)]
        omega
      have hself : up1 X 4 (upd (fl 4) n (nI a)) = X := by
        funext r
        by_cases hr : r = 4
        · subst hr
          rw [up1_at, x4]
          funext k
          by_cases hk : k = n
          · subst hk; rw [upd_at, h4]
          · rw [upd_ne hk]
        · rw [up1_ne hr]
      by_cases hq : 6 ≤ H ∧ b = 0 ∧ u' < 20
      · rw [if_pos (hcond.mpr hq)]
        unfold strayF nxA
        rw [if_pos hq, x8, y4, rset_k (by omega) hnc (by decide), g4, x4]
        by_cases hp : n % 2 = 0
        · rw [if_pos ((par_n (by omega)).mpr hp), if_pos hp, show (3 : Int32) = nI 3 from rfl, nearPl_up h1 (by decide)]
        · rw [if_neg (fun q => hp ((par_n (by omega)).mp q)), if_neg hp, nearPl_m3 h1]
      · rw [if_neg (fun q => hq (hcond.mp q))]
        unfold nxA
        rw [if_neg hq, hself]
    -- what the reference does
    have e1 : mC s.2 (nI n) 1 = nI u := (mC_k (w := 1) (by omega) (by omega)).trans h7
    have em : (p1S (nI H) n s).2 = upd s.2 (57 + 4 * n + 1) (nI u') ∧ ∃ c', (p1S (nI H) n s).1 = nI c' ∧ c' + (if u = 20 then 1 else 0) = c + (if u' = 20 then 1 else 0) := by
      unfold p1S
      have hl : lostM s.2 (nI n) ↔ u = 20 := by
        show mC s.2 (nI n) 1 = nI 20 ↔ _
        rw [e1, nI_eq (by omega) (by decide)]
      by_cases hq : u = 20
      · rw [if_pos (hl.mpr hq)]
        have hu20 : u' = 20 := by omega
        refine ⟨?_, c, i4, by rw [if_pos hq, if_pos hu20]⟩
        funext k
        by_cases hk : k = 57 + 4 * n + 1
        · subst hk; rw [upd_at, h7, hq, hu20]
        · rw [upd_ne hk]
      · rw [if_neg (fun q => hq (hl.mp q))]
        have ep : p1C s.2 (nI H) (nI n) = upd s.2 (57 + 4 * n + 1) (nI u') := by
          unfold p1C
          rw [e1]
          show sC s.2 (nI n) (nI 1) (minI (nI 20) (nI u + nI H / nI 4)) = _
          rw [sC_k (by omega) (by omega), nI_div (by omega) (by decide), nI_add, minI_n (by decide) (by omega), hu']
        rw [ep]
        have hl2 : lostM (upd s.2 (57 + 4 * n + 1) (nI u')) (nI n) ↔ u' = 20 := by
          show mC (upd s.2 (57 + 4 * n + 1) (nI u')) (nI n) (nI 1) = nI 20 ↔ _
          rw [mC_k (by omega) (by omega), upd_at, nI_eq (by omega) (by decide)]
        refine ⟨rfl, ?_⟩
        by_cases hq2 : u' = 20
        · exact ⟨c + 1, by rw [if_pos (hl2.mpr hq2)]; show s.1 + 1 = _; rw [i4, nI_1], by rw [if_neg hq, if_pos hq2]⟩
        · exact ⟨c, by rw [if_neg (fun q => hq2 (hl2.mp q))]; exact i4, by rw [if_neg hq, if_neg hq2]⟩
    obtain ⟨em1, c', em2, em3⟩ := em
    rw [ec, em1]
    refine ⟨fun r h4 h5 => ?_, fun k hk => ?_, fun k hk => ?_, c', em2, ?_⟩
    · rw [up1_ne h4, up1_ne h5, i1 r h4 h5]
    · have v4 : (up1 (up1 fl 5 (upd (fl 5) n (nI u'))) 4 (upd (fl 4) n (nI (nxA H n a u' b)))) 4 = upd (fl 4) n (nI (nxA H n a u' b)) := up1_at
      have v5 : (up1 (up1 fl 5 (upd (fl 5) n (nI u'))) 4 (upd (fl 4) n (nI (nxA H n a u' b)))) 5 = upd (fl 5) n (nI u') := rfl
      have v6 : (up1 (up1 fl 5 (upd (fl 5) n (nI u'))) 4 (upd (fl 4) n (nI (nxA H n a u' b)))) 6 = fl 6 := rfl
      have v7 : (up1 (up1 fl 5 (upd (fl 5) n (nI u'))) 4 (upd (fl 4) n (nI (nxA H n a u' b)))) 7 = fl 7 := rfl
      rw [v4, v5, v6, v7]
      by_cases hkn : k = n
      · subst hkn
        refine ⟨a, u', b, h1, by omega, h3, ?_, ?_, upd_at, upd_at, h8, ?_, ?_⟩
        · rw [upd_at, if_pos (by simp)]
        · rw [upd_ne (by omega), h5]
        · rw [upd_ne (by omega), h9]
        · rw [upd_ne (by omega), h10]
      · obtain ⟨a1, u1, b1, k1, k2, k3, k4, k5, k6, k7, k8, k9, k10⟩ := i2 k hk
        refine ⟨a1, u1, b1, k1, k2, k3, ?_, ?_, ?_, ?_, k8, ?_, ?_⟩
        · rw [upd_ne hkn, k4]
          have : decide (k < n) = decide (k < n + 1) := by rw [decide_eq_decide]; omega
          show nI (if decide (k < n) = true then nxA H k a1 u1 b1 else a1) = _
          rw [this]
        · rw [upd_ne (by omega), k5]
        · rw [upd_ne hkn, k6]
        · rw [upd_ne (by omega), k7]
        · rw [upd_ne (by omega), k9]
        · rw [upd_ne (by omega), k10]
    · rw [upd_ne (by omega), i3 k (by omega)]
    · rw [lc_s, lc_s, lc_cong (f := s.2) n (fun k hk => upd_ne (by omega)), upd_at, ← i3 n (Nat.le_refl _), h7]
      have q1 : (if nI u = nI 20 then 1 else 0) = (if u = 20 then 1 else 0) := by
        by_cases hq : u = 20
        · rw [if_pos hq, if_pos (by rw [hq])]
        · rw [if_neg hq, if_neg (fun q => hq ((nI_eq (by omega) (by decide)).mp q))]
      have q2 : (if nI u' = nI 20 then 1 else 0) = (if u' = 20 then 1 else 0) := by
        by_cases hq : u' = 20
        · rw [if_pos hq, if_pos (by rw [hq])]
        · rw [if_neg hq, if_neg (fun q => hq ((nI_eq (by omega) (by decide)).mp q))]
      rw [q1, q2]
      omega
/-- the second pass: straying in the reference -/
theorem pass2 {nc H : Nat} {fl : FL} {f0 : MF} (hnc : nc ≤ 6) (hH6 : 6 ≤ H) (hG : EqG nc H (fun k => decide (k < nc)) fl f0) :
    ∀ n, n ≤ nc → EqG nc H (fun k => decide (n ≤ k ∧ k < nc)) fl (itr p2S f0 n) ∧ ∀ k, itr p2S f0 n (57 + 4 * k + 1) = f0 (57 + 4 * k + 1) := by
  intro n hn
  induction n with
  | zero => exact ⟨hG.cong (fun k hk => by rw [decide_eq_decide]; omega), fun _ => rfl⟩
  | succ n ih =>
    obtain ⟨i1, i2⟩ := ih (by omega)
    rw [show itr p2S f0 (n + 1) = p2S n (itr p2S f0 n) from rfl]
    generalize itr p2S f0 n = f at *
    obtain ⟨a, u, b, h1, h2, h3, h4, h5, h6, h7, h8, h9, h10⟩ := i1 n (by omega)
    rw [if_pos (by simp; omega)] at h4
    have e0 : mC f (nI n) 0 = nI a := (mC_k (w := 0) (by omega) (by omega)).trans h5
    have e1 : mC f (nI n) 1 = nI u := (mC_k (w := 1) (by omega) (by omega)).trans h7
    have e2 : mC f (nI n) 2 = nI b := (mC_k (w := 2) (by omega) (by omega)).trans h9
    have hself : upd f (57 + 4 * n) (nI a) = f := by
      funext k
      by_cases hk : k = 57 + 4 * n
      · subst hk; rw [upd_at, h5]
      · rw [upd_ne hk]
    have ep : p2S n f = upd f (57 + 4 * n) (nI (nxA H n a u b)) := by
      unfold p2S nxA
      have hl : lostM f (nI n) ↔ u = 20 := by
        show mC f (nI n) 1 = nI 20 ↔ _
        rw [e1, nI_eq (by omega) (by decide)]
      by_cases hq : u = 20
      · rw [if_pos (hl.mpr hq), if_neg (by omega), hself]
      · rw [if_neg (fun q => hq (hl.mp q)), e2]
        by_cases hb : b = 1
        · rw [if_pos (show nI b = 1 by rw [hb]; rfl), if_neg (by omega), hself]
        · rw [if_neg (show ¬ nI b = 1 from fun q => hb ((nI_eq (b := 1) (by omega) (by decide)).mp q)), if_pos (show 6 ≤ H ∧ b = 0 ∧ u < 20 by omega), e0]
          by_cases hp : n % 2 = 0
          · rw [if_pos ((par_n (by omega)).mpr hp), if_pos hp]
            show sC f (nI n) (nI 0) (minI (nI 99) (nI a + nI 3)) = _
            rw [sC_k (by omega) (by omega), nI_add, minI_n (by decide) (by omega), Nat.add_zero]
          · rw [if_neg (fun q => hp ((par_n (by omega)).mp q)), if_neg hp]
            have em : maxI 0 (nI a - 3) = nI (a - 3) := by
              have := nearPl_dn (c := 3) h1 (by decide)
              unfold nearPl at this
              have hmin : minI 99 (nI a - nI 3) = nI a - nI 3 := by
                unfold minI
                by_cases h3 : 3 ≤ a
                · rw [nI_sub h3]
                  by_cases h99 : nI (a - 3) < 99
                  · rw [if_pos h99]
                  · exact absurd (nI_lt (a := a - 3) (b := 99) (by omega) (by decide)) h99
                · have e9 : nI a - nI 3 = zI ((a : Int) - 3) := by rw [nI_z (n := a) (by omega), nI_z (n := 3) (by omega), zI_sub]; rfl
                  rw [e9, if_pos (by rw [Int32.lt_iff_toInt_lt, zI_t (by omega) (by omega), show (99 : Int32).toInt = 99 from rfl]; omega)]
              rw [hmin] at this
              exact this
            rw [em]
            exact sC_k (w := 0) (by omega) (by omega)
    rw [ep]
    refine ⟨fun k hk => ?_, fun k => by rw [upd_ne (by omega), i2 k]⟩
    by_cases hkn : k = n
    · subst hkn
      refine ⟨nxA H k a u b, u, b, nxA_lt h1, h2, h3, ?_, upd_at, h6, by rw [upd_ne (by omega), h7], h8, by rw [upd_ne (by omega), h9], by rw [upd_ne (by omega), h10]⟩
      rw [if_neg (by simp; omega), h4]
    · obtain ⟨a1, u1, b1, k1, k2, k3, k4, k5, k6, k7, k8, k9, k10⟩ := i1 k hk
      refine ⟨a1, u1, b1, k1, k2, k3, ?_, by rw [upd_ne (by omega), k5], k6, by rw [upd_ne (by omega), k7], k8, by rw [upd_ne (by omega), k9], by rw [upd_ne (by omega), k10]⟩
      rw [k4]
      have : decide (n ≤ k ∧ k < nc) = decide (n + 1 ≤ k ∧ k < nc) := by rw [decide_eq_decide]; omega
      show nI (if decide (n ≤ k ∧ k < nc) = true then nxA H k a1 u1 b1 else a1) = _
      rw [this]
theorem FP.hour {ns np nh nc t dh cu : Nat} {fl : FL} {s : Int32 × MF} (h : FP ns np nh nc t dh cu fl s.2) (ht1 : t + 1 < 2 ^ 30) {c0 : Nat} (hc0 : s.1 = nI c0) {k : Nat} : FP ns np nh nc (t + 1) dh cu (phX k fl) (paS k s).2 ∧ ∃ c, (paS k s).1 = nI c ∧ c + lc s.2 nc = c0 + lc (paS k s).2 nc := by
  have h0 := h
  have hH := h.hle (t' := t)
  have hok := h.pmOk
  obtain ⟨⟨b1, b2, b3, b4, b5, b6, b7⟩, ⟨z0, z1, z2, z3, z4, z5, z6, z7, z8⟩, ⟨m1, m2, m3, m4⟩, ht, hd, hc, h8, h7, hS, hP, hD, hC⟩ := h
  obtain ⟨i1, i2, -, c, i4, i5⟩ := pass1 (H := hT dh t) b4 hH ⟨z4, z5, z6⟩ hC hc0 nc (Nat.le_refl _)
  have e1 : phX k fl = up2 (itr (phS (nI (hT dh t))) fl nc) 9 1 (itr (phS (nI (hT dh t))) fl nc 9 1 + 1) := by
    unfold phX phF
    rw [h0.heat, z4, nI_clamp (by omega)]
  have ep1 : p1M s = itr (p1S (nI (hT dh t))) s nc := by
    unfold p1M
    rw [h0.heatM0, m4, nI_clamp (by omega)]
  have lo1 : ∀ j, j < 57 → (itr (p1S (nI (hT dh t))) s nc).2 j = s.2 j := fun j hj => p1_lo b4 hj
  have hk5 : (itr (p1S (nI (hT dh t))) s nc).2 5 = nI nc := by rw [lo1 5 (by omega)]; exact m4
  have e2 : paS k s = ((itr (p1S (nI (hT dh t))) s nc).1, p3M (p2M (nI (hT dh t)) (itr (p1S (nI (hT dh t))) s nc).2)) := by
    unfold paS
    rw [ep1, h0.heatM0]
  have hG2 : EqG nc (hT dh t) (fun _ => false) (itr (phS (nI (hT dh t))) fl nc) (p2M (nI (hT dh t)) (itr (p1S (nI (hT dh t))) s nc).2) ∧ (∀ j, j < 57 → p2M (nI (hT dh t)) (itr (p1S (nI (hT dh t))) s nc).2 j = s.2 j) ∧ ∀ i, p2M (nI (hT dh t)) (itr (p1S (nI (hT dh t))) s nc).2 (57 + 4 * i + 1) = (itr (p1S (nI (hT dh t))) s nc).2 (57 + 4 * i + 1) := by
    unfold p2M
    by_cases h6 : 6 ≤ hT dh t
    · rw [if_neg (show ¬ nI (hT dh t) < 6 from nI_nlt (b := 6) h6 (by omega)), hk5, nI_clamp (by omega)]
      obtain ⟨j1, j2⟩ := pass2 b4 h6 i2 nc (Nat.le_refl _)
      exact ⟨j1.cong (fun k hk => by rw [decide_eq_false_iff_not]; omega), fun j hj => (p2_lo b4 hj).trans (lo1 j hj), j2⟩
    · rw [if_pos (show nI (hT dh t) < 6 from nI_lt (b := 6) (by omega) (by decide))]
      refine ⟨fun i hi => ?_, lo1, fun _ => rfl⟩
      obtain ⟨a, u, b, q1, q2, q3, q4, q5⟩ := i2 i hi
      refine ⟨a, u, b, q1, q2, q3, ?_, q5⟩
      rw [if_pos (by simp; exact hi)] at q4
      rw [q4]
      unfold nxA
      rw [if_neg (by omega)]
      rfl
  rw [e1, e2]
  generalize itr (phS (nI (hT dh t))) fl nc = fl1 at *
  generalize hf1 : p2M (nI (hT dh t)) (itr (p1S (nI (hT dh t))) s nc).2 = f1 at *
  obtain ⟨g1, g2, g3⟩ := hG2
  have r : ∀ q, q ≠ 4 → q ≠ 5 → fl1 q = fl q := i1
  have lo : ∀ j, j ≠ 0 → p3M f1 j = f1 j := fun j h1 => upd_ne h1
  have lo2 : ∀ j, j ≠ 0 → j < 57 → p3M f1 j = s.2 j := fun j h1 h2 => (lo j h1).trans (g2 j h2)
  refine ⟨?_, c, i4, ?_⟩
  · show FP ns np nh nc (t + 1) dh cu (up2 fl1 9 1 (fl1 9 1 + 1)) (p3M f1)
    have r8 := r 8 (by omega) (by omega)
    have r9 := r 9 (by omega) (by omega)
    have s8 : up2 fl1 9 1 (fl1 9 1 + 1) 8 = fl 8 := (up2_nk (by omega)).trans r8
    have s9 : ∀ i, i ≠ 1 → up2 fl1 9 1 (fl1 9 1 + 1) 9 i = fl 9 i := fun i hi => (up2_ni hi).trans (by rw [r9])
    have sr : ∀ q, q < 4 ∨ q = 6 ∨ q = 7 → up2 fl1 9 1 (fl1 9 1 + 1) q = fl q := fun q hq => (up2_nk (by omega)).trans (r q (by omega) (by omega))
    refine ⟨⟨b1, b2, b3, b4, ht1, b6, b7⟩, ⟨by rw [s8]; exact z0, by rw [s8]; exact z1, by rw [s8]; exact z2, by rw [s8]; exact z3, by rw [s8]; exact z4, by rw [s8]; exact z5, by rw [s8]; exact z6, by rw [s8]; exact z7, by rw [s9 0 (by omega)]; exact z8⟩, ⟨?_, ?_, ?_, ?_⟩, ⟨by rw [up2_at, r9, ht.1, nI_1], ?_⟩, ⟨by rw [s9 2 (by omega)]; exact hd.1, ?_⟩, ⟨by rw [s9 3 (by omega)]; exact hc.1, ?_⟩, ?_, ?_, ?_, ?_, ?_, ?_⟩
    · rw [lo2 _ (by omega) (by omega)]; exact m1
    · rw [lo2 _ (by omega) (by omega)]; exact m2
    · rw [lo2 _ (by omega) (by omega)]; exact m3
    · rw [lo2 _ (by omega) (by omega)]; exact m4
    · show upd f1 0 (f1 0 + 1) 0 = _
      rw [upd_at, g2 0 (by omega), ht.2, nI_1]
    · rw [lo2 _ (by omega) (by omega)]; exact hd.2
    · rw [lo2 _ (by omega) (by omega)]; exact hc.2
    · rw [lo2 _ (by omega) (by omega), s9 4 (by omega)]; exact h8
    · rw [lo2 _ (by omega) (by omega), ← h7]
      exact sum7_of (fun k hk => by rw [sr 7 (by omega)])
    · exact hS.of (fun k hk => by rw [sr 0 (by omega)]) (fun k hk => lo2 _ (by omega) (by omega))
    · exact hP.of b2 (fun k hk => ⟨by rw [sr 1 (by omega)], by rw [sr 2 (by omega)]⟩) (fun j h1 h2 => lo2 j (by omega) (by omega))
    · exact hD.of b3 (sr 3 (by omega)) (fun j h1 h2 => lo2 j (by omega) (by omega))
    · exact (g1.toC (fun _ _ => rfl)).of (fun k hk => ⟨rfl, rfl, rfl, rfl⟩) (fun j h1 h2 => lo j (by omega))
  · show c + lc s.2 nc = c0 + lc (p3M f1) nc
    rw [i5, lc_cong (g := p3M f1) nc (fun i hi => (lo _ (by omega)).trans (g3 i))]
theorem op_hours {n : Nat} {fl : FL} {f : MF} (h : FR n fl f) (hn : n + 48 < 2 ^ 30) (u : Int32) : OpR (n + 48) (phO fl u) (paM f u) := by
  obtain ⟨ns, np, nh, nc, t, dh, cu, htn, h⟩ := h
  unfold phO paM
  have hz9 : (u < 1 ∨ ¬ u ≤ 48) ↔ ¬ inB u 1 48 := by
    unfold inB
    rw [Int32.lt_iff_toInt_lt, Int32.le_iff_toInt_le, Int32.lt_iff_toInt_lt, show (1 : Int32).toInt = 1 from rfl]
    omega
  refine OpR_if hz9 (fun _ => rfl) (fun c1 => ?_)
  have c3 : inB u 1 48 := Decidable.not_not.mp (fun q => c1 (hz9.mpr q))
  obtain ⟨y, hy2, rfl⟩ : ∃ y, y ≤ 48 ∧ u = nI y := by
    have q0 : ¬ u < 0 := fun q => c3.1 (Int32.lt_of_lt_of_le q (by decide))
    obtain ⟨j, hj, rfl⟩ := nI_of q0
    refine ⟨j, ?_, rfl⟩
    rcases Nat.lt_or_ge 48 j with q | q
    · exact absurd (nI_lt (a := 48) q hj) c3.2
    · exact q
  rw [nI_clamp (by omega)]
  have b4 := h.1.2.2.2.1
  have hl := itr_rel (st := phX) (st' := paS) (a := fl) (b := ((0 : Int32), f)) (R := fun k x s => FP ns np nh nc (t + k) dh cu x s.2 ∧ ∃ c, s.1 = nI c ∧ c + lc f nc = lc s.2 nc) ⟨h, 0, rfl, Nat.zero_add _⟩ y (fun k x s hk hR => by
    obtain ⟨q1, c, q2, q3⟩ := hR
    obtain ⟨q4, c', q5, q6⟩ := q1.hour (by omega) q2 (k := k)
    exact ⟨q4, c', q5, by omega⟩)
  obtain ⟨q1, c, q2, q3⟩ := hl
  have l1 := h.lostN
  have l2 := q1.lostN
  have l3 := lc_le (f := (itr paS ((0 : Int32), f) y).2) nc
  have ev : clF (itr phX fl y) - clF fl = nI c := by
    rw [l1, l2, nI_sub (by omega)]
    congr 1
    omega
  exact ⟨by show clF (itr phX fl y) - clF fl = _; rw [ev, q2], by show ¬ clF (itr phX fl y) - clF fl = -1; rw [ev]; exact nI_n1 (by omega), ns, np, nh, nc, t + y, dh, cu, by omega, q1⟩
/-- a command on both sides -/
theorem op_co {n : Nat} {fl : FL} {f : MF} (h : FR n fl f) (hn : n + 48 < 2 ^ 30) {v a b d : Int32} (hv : v = 98 ∨ v = 100 ∨ v = 101 ∨ v = 108 ∨ v = 115 ∨ v = 116 ∨ v = 119) : OpR (n + 48) (coO v a b d fl) (coM v a b d f) := by
  have hle : n ≤ n + 48 := by omega
  rcases hv with hv | hv | hv | hv | hv | hv | hv
  · have ne : ∀ w : Int32, (98 : Int32) ≠ w → ¬ v = w := fun w hw q => hw (hv.symm.trans q)
    have e1 : coO v a b d fl = rbO fl a := by unfold coO; rw [if_pos hv]
    have e2 : coM v a b d f = riM f a := by unfold coM; rw [if_pos hv]
    rw [e1, e2]
    exact (op_bell h a).mono hle
  · have ne : ∀ w : Int32, (100 : Int32) ≠ w → ¬ v = w := fun w hw q => hw (hv.symm.trans q)
    have e1 : coO v a b d fl = wcO fl a := by unfold coO; rw [if_neg (ne 98 (by decide)), if_pos hv]
    have e2 : coM v a b d f = drM f a := by unfold coM; rw [if_neg (ne 98 (by decide)), if_neg (ne 101 (by decide)), if_neg (ne 108 (by decide)), if_neg (ne 115 (by decide)), if_neg (ne 116 (by decide)), if_neg (ne 119 (by decide))]
    rw [e1, e2]
    exact (op_drink h a).mono hle
  · have ne : ∀ w : Int32, (101 : Int32) ≠ w → ¬ v = w := fun w hw q => hw (hv.symm.trans q)
    have e1 : coO v a b d fl = erO fl a b := by unfold coO; rw [if_neg (ne 98 (by decide)), if_neg (ne 100 (by decide)), if_pos hv]
    have e2 : coM v a b d f = erM f a b := by unfold coM; rw [if_neg (ne 98 (by decide)), if_pos hv]
    rw [e1, e2]
    exact (op_erase h a b).mono hle
  · have ne : ∀ w : Int32, (108 : Int32) ≠ w → ¬ v = w := fun w hw q => hw (hv.symm.trans q)
    have e1 : coO v a b d fl = loO fl a := by unfold coO; rw [if_neg (ne 98 (by decide)), if_neg (ne 100 (by decide)), if_neg (ne 101 (by decide)), if_pos hv]
    have e2 : coM v a b d f = loM f a := by unfold coM; rw [if_neg (ne 98 (by decide)), if_neg (ne 101 (by decide)), if_pos hv]
    rw [e1, e2]
    exact (op_loose h a).mono hle
  · have ne : ∀ w : Int32, (115 : Int32) ≠ w → ¬ v = w := fun w hw q => hw (hv.symm.trans q)
    have e1 : coO v a b d fl = sgO fl a b d := by unfold coO; rw [if_neg (ne 98 (by decide)), if_neg (ne 100 (by decide)), if_neg (ne 101 (by decide)), if_neg (ne 108 (by decide)), if_pos hv]
    have e2 : coM v a b d f = sgM f a b d := by unfold coM; rw [if_neg (ne 98 (by decide)), if_neg (ne 101 (by decide)), if_neg (ne 108 (by decide)), if_pos hv]
    rw [e1, e2]
    exact (op_sight h a b d).mono hle
  · have ne : ∀ w : Int32, (116 : Int32) ≠ w → ¬ v = w := fun w hw q => hw (hv.symm.trans q)
    have e1 : coO v a b d fl = tiO fl a := by unfold coO; rw [if_neg (ne 98 (by decide)), if_neg (ne 100 (by decide)), if_neg (ne 101 (by decide)), if_neg (ne 108 (by decide)), if_neg (ne 115 (by decide)), if_pos hv]
    have e2 : coM v a b d f = tiM f a := by unfold coM; rw [if_neg (ne 98 (by decide)), if_neg (ne 101 (by decide)), if_neg (ne 108 (by decide)), if_neg (ne 115 (by decide)), if_pos hv]
    rw [e1, e2]
    exact (op_tie h a).mono hle
  · have ne : ∀ w : Int32, (119 : Int32) ≠ w → ¬ v = w := fun w hw q => hw (hv.symm.trans q)
    have e1 : coO v a b d fl = phO fl a := by unfold coO; rw [if_neg (ne 98 (by decide)), if_neg (ne 100 (by decide)), if_neg (ne 101 (by decide)), if_neg (ne 108 (by decide)), if_neg (ne 115 (by decide)), if_neg (ne 116 (by decide))]
    have e2 : coM v a b d f = paM f a := by unfold coM; rw [if_neg (ne 98 (by decide)), if_neg (ne 101 (by decide)), if_neg (ne 108 (by decide)), if_neg (ne 115 (by decide)), if_neg (ne 116 (by decide)), if_pos hv]
    rw [e1, e2]
    exact op_hours h hn a
