/-! NUMBERS (rows of the whole claim) -/
theorem nI_mul (a b : Nat) : nI a * nI b = nI (a * b) := (Int32.ofNat_mul a b).symm
theorem nI_nm1 {k : Nat} (h : k < 2 ^ 31) : ¬ nI k = -1 := fun e => by
  have := nI_toInt h
  rw [e] at this
  have e2 : (-1 : Int32).toInt = -1 := rfl
  omega
def zI (z : Int) : Int32 := Int32.ofInt z
theorem zI_t {z : Int} (h1 : -2147483648 ≤ z) (h2 : z < 2147483648) : (zI z).toInt = z := Int32.toInt_ofInt_of_le h1 h2
theorem zI_add {a b : Int} : zI a + zI b = zI (a + b) := (Int32.ofInt_add a b).symm
theorem zI_sub {a b : Int} : zI a - zI b = zI (a - b) := (Int32.ofInt_sub a b).symm
theorem zI_mul {a b : Int} : zI a * zI b = zI (a * b) := (Int32.ofInt_mul a b).symm
theorem zI_neg {a : Int} : -zI a = zI (-a) := (Int32.ofInt_neg a).symm
theorem nI_z {n : Nat} (h : n < 2 ^ 31) : nI n = zI n := Int32.toInt_inj.mp (by rw [nI_toInt h, zI_t (by omega) (by omega)])
theorem nI_div {a b : Nat} (ha : a < 2 ^ 31) (hb : b < 2 ^ 31) : nI a / nI b = nI (a / b) := by
  apply Int32.toInt_inj.mp
  have h1 : a / b ≤ a := Nat.div_le_self a b
  rw [Int32.toInt_div_of_ne_right _ _ (fun h => by
    have h2 := nI_toInt hb
    rw [h] at h2
    have h3 : (-1 : Int32).toInt = -1 := by decide
    omega), nI_toInt ha, nI_toInt hb, nI_toInt (by omega)]
  rw [Int.tdiv_eq_ediv_of_nonneg (by omega)]
  omega
theorem nI_sub {a b : Nat} (h : b ≤ a) : nI a - nI b = nI (a - b) := by
  have h1 := nI_add (a - b) b
  rw [Nat.sub_add_cancel h] at h1
  rw [← h1, Int32.add_sub_cancel]
theorem ofD_n {t : Nat} (h : t < 2 ^ 31) : ofD (nI t) = nI (t % 24) := by
  unfold ofD
  rw [show (24 : Int32) = nI 24 from rfl, nI_div h (by decide), nI_mul, nI_sub (Nat.div_mul_le_self t 24)]
  congr 1
  have := Nat.div_add_mod t 24
  omega
theorem pl_of {p : Int32} (h : isPl p) : ∃ a, a < 100 ∧ p = nI a := by
  obtain ⟨j, hj, rfl⟩ := nI_of h.1
  refine ⟨j, ?_, rfl⟩
  rcases Nat.lt_or_ge j 100 with h1 | h1
  · exact h1
  · exact absurd (nI_le (a := 100) h1 hj) h.2
theorem rin_iff {N n : Nat} {i : Int32} (hn : n ≤ N) (hN : N < 2 ^ 31) : rin N (nI n) i ↔ ∃ k, k < n ∧ i = nI k := by
  constructor
  · intro h
    obtain ⟨j, hj, rfl⟩ := nI_of h.1
    refine ⟨j, ?_, rfl⟩
    rcases Nat.lt_or_ge j n with h1 | h1
    · exact h1
    · exact absurd (nI_le h1 hj) h.2.1
  · rintro ⟨k, hk, rfl⟩
    exact ⟨nI_pos (by omega), nI_ge hk (by omega), nI_ge (by omega) hN⟩
theorem hasSh_iff {n : Nat} {fl : FL} {i : Int32} (hn : n < 2 ^ 31) (e : fl 9 0 = nI n) : hasSh fl i ↔ ∃ k, k < n ∧ i = nI k := by
  unfold hasSh
  rw [e]
  constructor
  · intro h
    obtain ⟨j, hj, rfl⟩ := nI_of h.1
    refine ⟨j, ?_, rfl⟩
    rcases Nat.lt_or_ge j n with h1 | h1
    · exact h1
    · exact absurd (nI_le h1 hj) h.2
  · rintro ⟨k, hk, rfl⟩
    exact ⟨nI_pos (by omega), nI_ge hk hn⟩
theorem rget_k {N n k : Nat} {F : Nat → Int32} (hk : k < n) (hn : n ≤ N) (hN : N < 2 ^ 31) : rget N (nI n) F (nI k) = F k := by
  unfold rget
  rw [if_pos ((rin_iff hn hN).mpr ⟨k, hk, rfl⟩), nI_clamp (by omega)]
theorem rset_k {N n k : Nat} {F : Nat → Int32} {v : Int32} (hk : k < n) (hn : n ≤ N) (hN : N < 2 ^ 31) : rset N (nI n) F (nI k) v = upd F k v := by
  unfold rset
  rw [if_pos ((rin_iff hn hN).mpr ⟨k, hk, rfl⟩), nI_clamp (by omega)]
theorem fnd_congr {p q : Nat → Bool} : ∀ (d k : Nat), (∀ j, k ≤ j → j < k + d → p j = q j) → fnd p d k = fnd q d k
  | 0, _, _ => rfl
  | d + 1, k, h => by
    simp only [fnd]
    rw [h k (by omega) (by omega), fnd_congr d (k + 1) (fun j h1 h2 => h j (by omega) (by omega))]
theorem fnd_some {p : Nat → Bool} : ∀ (d k : Nat), k + d < 2 ^ 31 → fnd p d k = -1 ∨ ∃ j, k ≤ j ∧ j < k + d ∧ fnd p d k = nI j
  | 0, _, _ => Or.inl rfl
  | d + 1, k, h => by
    simp only [fnd]
    by_cases hp : p k = true
    · rw [if_pos hp]; exact Or.inr ⟨k, by omega, by omega, rfl⟩
    · rw [if_neg hp]
      rcases fnd_some (p := p) d (k + 1) (by omega) with h1 | ⟨j, h1, h2, h3⟩
      · exact Or.inl h1
      · exact Or.inr ⟨j, by omega, by omega, h3⟩
theorem itr_rel {α β : Type} {st : Nat → α → α} {st' : Nat → β → β} {R : Nat → α → β → Prop} {a : α} {b : β} (h0 : R 0 a b) : ∀ n, (∀ k x y, k < n → R k x y → R (k + 1) (st k x) (st' k y)) → R n (itr st a n) (itr st' b n)
  | 0, _ => h0
  | n + 1, hs => hs n _ _ (by omega) (itr_rel h0 n (fun k x y hk => hs k x y (by omega)))
theorem itr_congr {α : Type} {st st' : Nat → α → α} {a : α} : ∀ n, (∀ k x, k < n → st k x = st' k x) → itr st a n = itr st' a n := fun n h =>
  itr_rel (R := fun _ x y => x = y) rfl n (fun k x y hk e => by subst e; exact h k x hk)
theorem nI_n1 {k : Nat} (h : k < 2 ^ 31) : ¬ nI k = -1 := nI_nm1 h
def szC (ns np nh nc : Nat) (fl : FL) : Prop := fl 8 0 = nI ns ∧ fl 8 1 = nI np ∧ fl 8 2 = nI np ∧ fl 8 3 = nI 30 ∧ fl 8 4 = nI nc ∧ fl 8 5 = nI nc ∧ fl 8 6 = nI nc ∧ fl 8 7 = nI nc ∧ fl 9 0 = nI nh
def hT (dh t : Nat) : Nat := dh * min (t % 24) (24 - t % 24) / 6
theorem hT_le {dh t : Nat} (h : dh ≤ 9) : hT dh t ≤ 18 := by
  unfold hT
  have h1 : min (t % 24) (24 - t % 24) ≤ 12 := by omega
  have h2 : dh * min (t % 24) (24 - t % 24) ≤ 9 * 12 := Nat.mul_le_mul h h1
  omega
theorem midI_n {a : Nat} (h : a < 24) : midI (nI a) = nI (min a (24 - a)) := by
  unfold midI
  by_cases h1 : 12 < a
  · rw [if_pos (show (12 : Int32) < nI a from nI_lt (a := 12) h1 (by omega)), show (24 : Int32) = nI 24 from rfl, nI_sub (by omega), Nat.min_eq_right (by omega)]
  · rw [if_neg (show ¬ (12 : Int32) < nI a from nI_nlt (a := 12) (b := a) (by omega) (by decide)), Nat.min_eq_left (by omega)]
theorem heatI_n {dh t : Nat} (h : dh ≤ 9) (ht : t < 2 ^ 31) : heatI (nI dh) (nI t) = nI (hT dh t) := by
  unfold heatI hT
  have h1 : min (t % 24) (24 - t % 24) ≤ 12 := by omega
  have h2 : dh * min (t % 24) (24 - t % 24) ≤ 9 * 12 := Nat.mul_le_mul h h1
  rw [ofD_n ht, midI_n (Nat.mod_lt _ (by decide)), nI_mul, show (6 : Int32) = nI 6 from rfl, nI_div (by omega) (by decide)]
theorem minI_n {a b : Nat} (ha : a < 2 ^ 31) (hb : b < 2 ^ 31) : minI (nI a) (nI b) = nI (min a b) := by
  unfold minI
  by_cases h : b < a
  · rw [if_pos (nI_lt h ha), Nat.min_eq_right (by omega)]
  · rw [if_neg (fun q => nI_nlt (by omega) hb q), Nat.min_eq_left (by omega)]
theorem maxI_n {a b : Nat} (ha : a < 2 ^ 31) (hb : b < 2 ^ 31) : maxI (nI a) (nI b) = nI (max a b) := by
  unfold maxI
  by_cases h : a < b
  · rw [if_pos (nI_lt h hb), Nat.max_eq_right (by omega)]
  · rw [if_neg (fun q => nI_nlt (by omega) ha q), Nat.max_eq_left (by omega)]
def dsN (a b : Nat) : Nat := (a - b) + (b - a)
theorem absI_n {a b : Nat} (ha : a < 2 ^ 30) (hb : b < 2 ^ 30) : absI (nI a - nI b) = nI (dsN a b) := by
  unfold absI dsN
  by_cases h : b ≤ a
  · rw [nI_sub h, if_pos (nI_pos' (by omega)), show b - a = 0 by omega, Nat.add_zero]
  · rw [if_neg ?_, show a - b = 0 by omega, Nat.zero_add]
    · rw [nI_z (n := a) (by omega), nI_z (n := b) (by omega), nI_z (n := b - a) (by omega), zI_sub, show (0 : Int32) = zI 0 from rfl, zI_sub]
      congr 1
      omega
    · rw [nI_z (n := a) (by omega), nI_z (n := b) (by omega), zI_sub, Int32.le_iff_toInt_le, zI_t (by omega) (by omega), show (0 : Int32).toInt = 0 from rfl]
      omega
theorem dsN_com {a b : Nat} : dsN a b = dsN b a := Nat.add_comm _ _
theorem m1_mul {b : Int32} : (-1 : Int32) * b = -b := by rw [Int32.neg_mul, Int32.one_mul]
theorem neg_neg1 : -(-1 : Int32) = 1 := by decide
theorem nearPl_in {a : Nat} (h : a < 100) : nearPl (nI a) = nI a := by
  unfold nearPl
  rw [show (99 : Int32) = nI 99 from rfl, minI_n (by decide) (by omega), show (0 : Int32) = nI 0 from rfl, maxI_n (by decide) (by omega)]
  congr 1
  omega
theorem nearPl_up {a c : Nat} (ha : a < 100) (hc : c < 2 ^ 20) : nearPl (nI a + nI c) = nI (min 99 (a + c)) := by
  unfold nearPl
  rw [nI_add, show (99 : Int32) = nI 99 from rfl, minI_n (by decide) (by omega), show (0 : Int32) = nI 0 from rfl, maxI_n (by decide) (by omega)]
  congr 1
  all_goals omega
theorem nearPl_dn {a c : Nat} (ha : a < 100) (hc : c < 2 ^ 20) : nearPl (nI a - nI c) = nI (a - c) := by
  by_cases h : c ≤ a
  · rw [nI_sub h, nearPl_in (by omega)]
  · unfold nearPl
    have e : nI a - nI c = zI ((a : Int) - c) := by rw [nI_z (n := a) (by omega), nI_z (n := c) (by omega), zI_sub]
    have t : (zI ((a : Int) - c)).toInt = (a : Int) - c := zI_t (by omega) (by omega)
    rw [e]
    have m : minI 99 (zI ((a : Int) - c)) = zI ((a : Int) - c) := by
      unfold minI
      rw [if_pos (by rw [Int32.lt_iff_toInt_lt, t, show (99 : Int32).toInt = 99 from rfl]; omega)]
    rw [m]
    unfold maxI
    rw [if_neg (by rw [Int32.lt_iff_toInt_lt, t, show (0 : Int32).toInt = 0 from rfl]; omega), show a - c = 0 by omega]
    rfl
theorem upd_at {f : Nat → Int32} {k : Nat} {v : Int32} : upd f k v k = v := by simp [upd]
theorem upd_ne {f : Nat → Int32} {k j : Nat} {v : Int32} (h : j ≠ k) : upd f k v j = f j := by simp [upd, h]
theorem upR_sz {fl : FL} {k : Nat} {sz : Int32} {g : Nat → Int32} : upR fl k sz g 8 k = sz := up2_at
theorem upR_r {fl : FL} {k : Nat} {sz : Int32} {g : Nat → Int32} (h : k ≠ 8) : upR fl k sz g k = g := by
  unfold upR
  rw [up2_nk h, up1_at]
theorem upR_o {fl : FL} {k j : Nat} {sz : Int32} {g : Nat → Int32} (h : j ≠ 8) (h2 : j ≠ k) : upR fl k sz g j = fl j := by
  unfold upR
  rw [up2_nk h, up1_ne h2]
theorem upR_z {fl : FL} {k j : Nat} {sz : Int32} {g : Nat → Int32} (h : k ≠ 8) (h2 : j ≠ k) : upR fl k sz g 8 j = fl 8 j := by
  unfold upR
  rw [up2_ni h2, up1_ne (Ne.symm h)]
theorem rAdd_k {fl : FL} {k n m : Nat} {v : Int32} (e : fl 8 k = nI m) (h : m < n) (hn : n < 2 ^ 31) : rAdd fl k n v = upR fl k (nI (m + 1)) (upd (fl k) m v) ∧ rAddV fl k n = nI m := by
  have hr : rroom n (fl 8 k) := by rw [e]; exact ⟨nI_pos (by omega), nI_lt h hn⟩
  unfold rAdd rAddV
  rw [if_pos hr, if_pos hr, if_pos hr, e, nI_clamp (by omega), nI_1, nI_pred]
  exact ⟨rfl, rfl⟩
theorem m1_iff {a : Nat} (h : a ≤ 100) : (nI a - 1 = -1 ↔ a = 0) ∧ (0 ≤ nI a - 1 ↔ ¬ a = 0) ∧ (nI a - 1 < 0 ↔ a = 0) := by
  rcases Nat.eq_zero_or_pos a with rfl | h0
  · exact ⟨⟨fun _ => rfl, fun _ => rfl⟩, ⟨fun q => absurd q (by decide), fun q => absurd rfl q⟩, ⟨fun _ => rfl, fun _ => by decide⟩⟩
  · have e : nI a - 1 = nI (a - 1) := nI_sub h0
    rw [e]
    exact ⟨⟨fun q => absurd q (nI_n1 (by omega)), fun q => absurd q (by omega)⟩, ⟨fun _ => by omega, fun _ => nI_pos' (by omega)⟩, ⟨fun q => absurd q (nI_pos (by omega)), fun q => absurd q (by omega)⟩⟩
def nxA (H k a u b : Nat) : Nat := if 6 ≤ H ∧ b = 0 ∧ u < 20 then (if k % 2 = 0 then min 99 (a + 3) else a - 3) else a
theorem nxA_lt {H k a u b : Nat} (h : a < 100) : nxA H k a u b < 100 := by
  unfold nxA
  split
  · split <;> omega
  · exact h
theorem nearPl_m3 {a : Nat} (h : a < 100) : nearPl (nI a + -3) = nI (a - 3) := by
  rw [← Int32.sub_eq_add_neg]
  exact nearPl_dn (c := 3) h (by decide)
theorem par_n {k : Nat} (h : k < 2 ^ 31) : (nI k - nI k / 2 * 2 = 0) ↔ k % 2 = 0 := by
  rw [show (2 : Int32) = nI 2 from rfl, nI_div h (by decide), nI_mul, nI_sub (Nat.div_mul_le_self k 2), show (0 : Int32) = nI 0 from rfl, nI_eq (by omega) (by decide)]
  have := Nat.div_add_mod k 2
  omega
