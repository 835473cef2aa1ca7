/-! far, shimmering, seeming -/
def dsN (a b : Nat) : Nat := (a - b) + (b - a)
theorem absI_n {a b : Nat} (ha : a < 2 ^ 30) (hb : b < 2 ^ 30) : absI (nI a - nI b) = nI (dsN a b) := by
  unfold absI dsN
  by_cases h : b ≤ a
  · rw [nI_sub h, if_pos (nI_pos' (by omega)), show b - a = 0 by omega, Nat.add_zero]
  · rw [if_neg ?_, show a - b = 0 by omega, Nat.zero_add]
    · rw [nI_z (n := a) (by omega), nI_z (n := b) (by omega), nI_z (n := b - a) (by omega), zI_sub, show (0 : Int32) = zI 0 from rfl, zI_sub]
      congr 1
      omega
    · rw [nI_z (n := a) (by omega), nI_z (n := b) (by omega), zI_sub, Int32.le_iff_toInt_le, zI_t (by omega) (by omega), show (0 : Int32).toInt = 0 from rfl]
      omega
theorem dsN_com {a b : Nat} : dsN a b = dsN b a := Nat.add_comm _ _
section PU
variable {ns np nh nc t dh cu : Nat} {fl : FL} {f : MF}
theorem FP.far (h : FP ns np nh nc t dh cu fl f) {k q : Nat} (hk : k < ns) (hq : q < np) : ∃ d, d < 100 ∧ farF fl (nI k) (nI q) = nI d ∧ farM f (nI k) (nI q) = nI d := by
  obtain ⟨a, ha, e1, e2⟩ := h.pS hk
  obtain ⟨b, z, hb, -, -, e3, -, e5, -⟩ := h.pP hq
  refine ⟨dsN a b, by unfold dsN; omega, ?_, ?_⟩
  · show absI (gS fl (nI k) - gP fl (nI q)) = _
    rw [e1, e3, absI_n (by omega) (by omega)]
  · show absI (mS f (nI k) - mP f (nI q) 0) = _
    rw [e2, e5, absI_n (by omega) (by omega)]
theorem FP.shim (h : FP ns np nh nc t dh cu fl f) {k q : Nat} (hk : k < ns) (hq : q < np) {v : Int32} : shimF fl (nI k) (nI q) v ↔ shM f (nI k) (nI q) v := by
  obtain ⟨d, -, e1, e2⟩ := h.far hk hq
  obtain ⟨b, z, -, -, -, -, e4, -, e6⟩ := h.pP hq
  show tooHot v (farF fl (nI k) (nI q)) (gH fl (nI q)) ↔ tooHot v (farM f (nI k) (nI q)) (mP f (nI q) 1)
  rw [e1, e2, e4, e6]
theorem hot0 {x : Int32} {z : Nat} (hz : z ≤ 9) : ¬ tooHot 0 x (nI z) := by
  intro h
  apply h
  rw [Int32.zero_mul, show (0 : Int32) / 10 = nI 0 from rfl, show (2 : Int32) = nI 2 from rfl, nI_mul]
  exact nI_le (by omega) (by omega)
theorem FP.htm (h : FP ns np nh nc t dh cu fl f) {k q : Nat} (hk : k < ns) (hq : q < np) : htmF fl (nI k) (nI q) = leM f (nI k) (nI q) := by
  unfold htmF leM
  have hH := h.hle (t' := t)
  rw [h.heat, nI_clamp (by omega)]
  obtain ⟨b, z, -, -, hz, -, e4, -, e6⟩ := h.pP hq
  have hno : ¬ shM f (nI k) (nI q) 0 := by
    show ¬ tooHot 0 (farM f (nI k) (nI q)) (mP f (nI q) 1)
    rw [e6]
    exact hot0 hz
  have e0 : nI (hT dh t) - nI (hT dh t) = 0 := by rw [nI_sub (Nat.le_refl _), Nat.sub_self]; rfl
  refine fnd_upto (m := hT dh t) _ _ 0 (by omega) (by omega) (by omega) ?_ (fun j h1 h2 => ?_)
  · rw [h.heatM0, e0]
    exact decide_eq_true hno
  · unfold htmP
    rw [h.heat, h.heatM0]
    rw [decide_eq_decide]
    by_cases hj : j = hT dh t
    · subst hj
      rw [e0]
      exact ⟨fun _ => hno, fun _ hq2 => absurd hq2.2 (fun k9 => hno ((h.shim hk hq).mp k9))⟩
    · have hlt : ¬ nI (hT dh t) ≤ nI j := nI_ge (by omega) (by omega)
      rw [h.shim hk hq]
      exact ⟨fun h3 h4 => h3 ⟨hlt, h4⟩, fun h3 h4 => h3 h4.2⟩
theorem FP.bend (h : FP ns np nh nc t dh cu fl f) {k q : Nat} (hk : k < ns) (hq : q < np) : bendF fl (nI k) (nI q) = bendM f (nI k) (nI q) ∧ ∃ c, c < 100 ∧ bendM f (nI k) (nI q) = nI c := by
  obtain ⟨d, hd, e1, e2⟩ := h.far hk hq
  have hH := h.hle (t' := t)
  have hm : hT dh t * d ≤ 18 * 99 := Nat.mul_le_mul hH (by omega)
  have e : bendM f (nI k) (nI q) = nI (hT dh t * d / 50) := by
    show mHb f 0 * farM f (nI k) (nI q) / nI 50 = _
    rw [h.heatM0, e2, nI_mul, nI_div (by omega) (by decide)]
  refine ⟨?_, _, by omega, e⟩
  rw [e]
  show hNow fl * farF fl (nI k) (nI q) / nI 50 = _
  rw [h.heat, e1, nI_mul, nI_div (by omega) (by decide)]
theorem m1_mul {b : Int32} : (-1 : Int32) * b = -b := by rw [Int32.neg_mul, Int32.one_mul]
theorem neg_neg1 : -(-1 : Int32) = 1 := by decide
theorem nearPl_in {a : Nat} (h : a < 100) : nearPl (nI a) = nI a := by
  unfold nearPl
  rw [show (99 : Int32) = nI 99 from rfl, minI_n (by decide) (by omega), show (0 : Int32) = nI 0 from rfl, maxI_n (by decide) (by omega)]
  congr 1
  omega
theorem FP.seem (h : FP ns np nh nc t dh cu fl f) {k q : Nat} (hk : k < ns) (hq : q < np) : seemF fl (nI k) (nI q) = seM f (nI k) (nI q) := by
  obtain ⟨eb, c, hc, ec⟩ := h.bend hk hq
  obtain ⟨a, ha, e1, e2⟩ := h.pS hk
  obtain ⟨b, z, hb, -, -, e3, -, e5, -⟩ := h.pP hq
  obtain ⟨d, hd, ed, ed2⟩ := h.far hk hq
  obtain ⟨-, -, -, ⟨et, et2⟩, -⟩ := h
  show nearPl (gS fl (nI k) + bwF fl (nI k) (nI q) * bendF fl (nI k) (nI q)) = _
  unfold bwF seM wayI
  rw [e1, e2, e3, e5, et, et2, eb]
  by_cases hab : a = b
  · subst hab
    have e0 : bendM f (nI k) (nI q) = 0 := by
      have : d = 0 := by
        have h1 : farM f (nI k) (nI q) = nI (dsN a a) := by
          show absI (mS f (nI k) - mP f (nI q) 0) = _
          rw [e2, e5, absI_n (by omega) (by omega)]
        have h2 := ed2.symm.trans h1
        have h3 := (nI_eq (by omega) (by unfold dsN; omega)).mp h2
        unfold dsN at h3
        omega
      show mHb f 0 * farM f (nI k) (nI q) / 50 = _
      rw [ed2, this]
      show mHb f 0 * 0 / 50 = _
      rw [Int32.mul_zero]
      rfl
    rw [if_pos rfl, e0, Int32.mul_zero, Int32.add_zero, nearPl_in ha]
  · rw [if_neg (fun q9 => hab ((nI_eq (by omega) (by omega)).mp q9))]
    generalize bendM f (nI k) (nI q) = B
    unfold nearPl
    congr 2
    by_cases hn : (12 : Int32) ≤ ofD (nI t)
    · rw [if_pos hn, if_neg (Int32.not_lt.mpr hn)]
      by_cases hl : a ≤ b
      · rw [if_pos (nI_lt (by omega) (by omega)), if_pos (nI_le hl (by omega)), neg_neg1, Int32.one_mul]
      · rw [if_neg (nI_nlt (by omega) (by omega)), if_neg (nI_ge (by omega) (by omega)), m1_mul, Int32.sub_eq_add_neg]
    · rw [if_neg hn, if_pos (Int32.not_le.mp hn)]
      by_cases hl : a ≤ b
      · rw [if_pos (nI_lt (by omega) (by omega)), if_pos (nI_le hl (by omega)), m1_mul, Int32.sub_eq_add_neg]
      · rw [if_neg (nI_nlt (by omega) (by omega)), if_neg (nI_ge (by omega) (by omega)), Int32.one_mul]
theorem nearPl_up {a c : Nat} (ha : a < 100) (hc : c < 2 ^ 20) : nearPl (nI a + nI c) = nI (min 99 (a + c)) := by
  unfold nearPl
  rw [nI_add, show (99 : Int32) = nI 99 from rfl, minI_n (by decide) (by omega), show (0 : Int32) = nI 0 from rfl, maxI_n (by decide) (by omega)]
  congr 1
  all_goals omega
theorem nearPl_dn {a c : Nat} (ha : a < 100) (hc : c < 2 ^ 20) : nearPl (nI a - nI c) = nI (a - c) := by
  by_cases h : c ≤ a
  · rw [nI_sub h, nearPl_in (by omega)]
  · unfold nearPl
    have e : nI a - nI c = zI ((a : Int) - c) := by rw [nI_z (n := a) (by omega), nI_z (n := c) (by omega), zI_sub]
    have t : (zI ((a : Int) - c)).toInt = (a : Int) - c := zI_t (by omega) (by omega)
    rw [e]
    have m : minI 99 (zI ((a : Int) - c)) = zI ((a : Int) - c) := by
      unfold minI
      rw [if_pos (by rw [Int32.lt_iff_toInt_lt, t, show (99 : Int32).toInt = 99 from rfl]; omega)]
    rw [m]
    unfold maxI
    rw [if_neg (by rw [Int32.lt_iff_toInt_lt, t, show (0 : Int32).toInt = 0 from rfl]; omega), show a - c = 0 by omega]
    rfl
theorem wlk_up : ∀ (n a : Nat), a < 100 → wlk 1 n (nI a) = nI (min 99 (a + n))
  | 0, a, h => by rw [show wlk 1 0 (nI a) = nI a from rfl]; congr 1; omega
  | n + 1, a, h => by
    show (if isPl (nI a + 1) then wlk 1 n (nI a + 1) else nI a) = _
    rw [nI_1]
    by_cases h1 : a + 1 < 100
    · rw [if_pos ⟨nI_pos (by omega), nI_ge (b := 100) h1 (by decide)⟩, wlk_up n (a + 1) h1]
      congr 1
      omega
    · rw [if_neg (fun q => q.2 (nI_le (a := 100) (by omega) (by omega)))]
      congr 1
      omega
theorem wlk_dn : ∀ (n a : Nat), a < 100 → wlk (-1) n (nI a) = nI (a - n)
  | 0, a, h => rfl
  | n + 1, a, h => by
    show (if isPl (nI a + -1) then wlk (-1) n (nI a + -1) else nI a) = _
    by_cases h1 : 0 < a
    · have e : nI a + -1 = nI (a - 1) := by
        rw [← nI_sub h1, ← Int32.sub_eq_add_neg]; rfl
      rw [e, if_pos ⟨nI_pos (by omega), nI_ge (b := 100) (by omega) (by decide)⟩, wlk_dn n (a - 1) (by omega)]
      congr 1
      omega
    · have e : a = 0 := by omega
      subst e
      rw [if_neg (fun q => q.1 (by decide))]
      congr 1
      omega
theorem FP.walk (h : FP ns np nh nc t dh cu fl f) {k q : Nat} (hk : k < ns) (hq : q < np) : walkF fl (nI k) (nI q) = seemF fl (nI k) (nI q) := by
  obtain ⟨eb, c, hc, ec⟩ := h.bend hk hq
  obtain ⟨a, ha, e1, e2⟩ := h.pS hk
  unfold walkF
  show _ = nearPl (gS fl (nI k) + bwF fl (nI k) (nI q) * bendF fl (nI k) (nI q))
  rw [e1, eb, ec, nI_clamp (by omega)]
  have hw : bwF fl (nI k) (nI q) = 1 ∨ bwF fl (nI k) (nI q) = -1 := by
    unfold bwF wayI
    split <;> split <;> simp
  rcases hw with hw | hw
  · rw [hw, wlk_up c a ha, Int32.one_mul, nearPl_up ha (by omega)]
  · rw [hw, wlk_dn c a ha, m1_mul, ← Int32.sub_eq_add_neg, nearPl_dn ha (by omega)]
theorem FP.seemB (h : FP ns np nh nc t dh cu fl f) {k q : Nat} (hk : k < ns) (hq : q < np) : ∃ a, a < 100 ∧ seM f (nI k) (nI q) = nI a := by
  rw [← h.seem hk hq, ← h.walk hk hq]
  obtain ⟨eb, c, hc, ec⟩ := h.bend hk hq
  obtain ⟨a, ha, e1, e2⟩ := h.pS hk
  unfold walkF
  rw [e1, eb, ec, nI_clamp (by omega)]
  have hw : bwF fl (nI k) (nI q) = 1 ∨ bwF fl (nI k) (nI q) = -1 := by
    unfold bwF wayI
    split <;> split <;> simp
  rcases hw with hw | hw
  · rw [hw, wlk_up c a ha]; exact ⟨_, by omega, rfl⟩
  · rw [hw, wlk_dn c a ha]; exact ⟨_, by omega, rfl⟩
theorem FP.off (h : FP ns np nh nc t dh cu fl f) {k q : Nat} (hk : k < ns) (hq : q < np) : ∃ d, d < 100 ∧ offF fl (nI k) (nI q) = nI d ∧ offM f (nI k) (nI q) = nI d := by
  obtain ⟨a, ha, e1, e2⟩ := h.pS hk
  obtain ⟨b, hb, e3⟩ := h.seemB hk hq
  refine ⟨dsN b a, by unfold dsN; omega, ?_, ?_⟩
  · show absI (seemF fl (nI k) (nI q) - gS fl (nI k)) = _
    rw [h.seem hk hq, e3, e1, absI_n (by omega) (by omega)]
  · show absI (seM f (nI k) (nI q) - mS f (nI k)) = _
    rw [e3, e2, absI_n (by omega) (by omega)]
theorem FP.pleOk (h : FP ns np nh nc t dh cu fl f) : leOk f := by
  have hz := h.2.2.2.2.2.2.2.2.2.1.2
  intro s p hs hp k hk ha
  have hH := h.hle (t' := t)
  rcases Nat.lt_or_ge k 20 with h1 | h1
  · exact h1
  · have h2 := ha (hT dh t) (by omega)
    rw [h.heatM0, nI_sub (Nat.le_refl _), Nat.sub_self] at h2
    obtain ⟨j, hj, rfl⟩ := ok_nI (n := 4) rfl hp
    obtain ⟨z, hz1, hz2⟩ := hz j hj
    have e6 : mP f (nI j) 1 = nI z := (mP_k (w := 1) hj (by omega)).trans hz2
    have h3 : tooHot 0 (farM f s (nI j)) (mP f (nI j) 1) := h2
    rw [e6] at h3
    exact absurd h3 (hot0 hz1)
end PU
