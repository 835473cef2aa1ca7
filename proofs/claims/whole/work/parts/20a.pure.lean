/-! BOTH SIDES ON ONE STATE: numbers -/
def zI (z : Int) : Int32 := Int32.ofInt z
theorem zI_t {z : Int} (h1 : -2147483648 ≤ z) (h2 : z < 2147483648) : (zI z).toInt = z := Int32.toInt_ofInt_of_le h1 h2
theorem zI_add {a b : Int} : zI a + zI b = zI (a + b) := (Int32.ofInt_add a b).symm
theorem zI_sub {a b : Int} : zI a - zI b = zI (a - b) := (Int32.ofInt_sub a b).symm
theorem zI_mul {a b : Int} : zI a * zI b = zI (a * b) := (Int32.ofInt_mul a b).symm
theorem zI_neg {a : Int} : -zI a = zI (-a) := (Int32.ofInt_neg a).symm
theorem nI_z {n : Nat} (h : n < 2 ^ 31) : nI n = zI n := Int32.toInt_inj.mp (by rw [nI_toInt h, zI_t (by omega) (by omega)])
theorem nI_div {a b : Nat} (ha : a < 2 ^ 31) (hb : b < 2 ^ 31) : nI a / nI b = nI (a / b) := by
  apply Int32.toInt_inj.mp
  have h1 : a / b ≤ a := Nat.div_le_self a b
  rw [Int32.toInt_div_of_ne_right _ _ (fun h => by
    have h2 := nI_toInt hb
    rw [h] at h2
    have h3 : (-1 : Int32).toInt = -1 := by decide
    omega), nI_toInt ha, nI_toInt hb, nI_toInt (by omega)]
  rw [Int.tdiv_eq_ediv_of_nonneg (by omega)]
  omega
theorem nI_sub {a b : Nat} (h : b ≤ a) : nI a - nI b = nI (a - b) := by
  have h1 := nI_add (a - b) b
  rw [Nat.sub_add_cancel h] at h1
  rw [← h1, Int32.add_sub_cancel]
theorem ofD_n {t : Nat} (h : t < 2 ^ 31) : ofD (nI t) = nI (t % 24) := by
  unfold ofD
  rw [show (24 : Int32) = nI 24 from rfl, nI_div h (by decide), nI_mul, nI_sub (Nat.div_mul_le_self t 24)]
  congr 1
  have := Nat.div_add_mod t 24
  omega
theorem le_n {a b : Nat} (ha : a < 2 ^ 31) (hb : b < 2 ^ 31) : nI a ≤ nI b ↔ a ≤ b := nI_leI ha hb
theorem isPl_iff {p : Int32} : isPl p ↔ inB p 0 99 := by
  unfold isPl inB
  rw [Int32.le_iff_toInt_le, Int32.lt_iff_toInt_lt, Int32.lt_iff_toInt_lt, show (100 : Int32).toInt = 100 from rfl, show (99 : Int32).toInt = 99 from rfl]
  omega
theorem pl_of {p : Int32} (h : isPl p) : ∃ a, a < 100 ∧ p = nI a := by
  obtain ⟨j, hj, rfl⟩ := nI_of h.1
  refine ⟨j, ?_, rfl⟩
  rcases Nat.lt_or_ge j 100 with h1 | h1
  · exact h1
  · exact absurd (nI_le (a := 100) h1 hj) h.2
theorem rin_iff {N n : Nat} {i : Int32} (hn : n ≤ N) (hN : N < 2 ^ 31) : rin N (nI n) i ↔ ∃ k, k < n ∧ i = nI k := by
  constructor
  · intro h
    obtain ⟨j, hj, rfl⟩ := nI_of h.1
    refine ⟨j, ?_, rfl⟩
    rcases Nat.lt_or_ge j n with h1 | h1
    · exact h1
    · exact absurd (nI_le h1 hj) h.2.1
  · rintro ⟨k, hk, rfl⟩
    exact ⟨nI_pos (by omega), nI_ge hk (by omega), nI_ge (by omega) hN⟩
theorem inB_iff {n : Nat} {i : Int32} (hn : n < 2 ^ 31) : inB i 0 (nI n - 1) ↔ ∃ k, k < n ∧ i = nI k := by
  have e : (nI n - 1).toInt = (n : Int) - 1 := by
    rw [nI_z hn, show (1 : Int32) = zI 1 from rfl, zI_sub, zI_t (by omega) (by omega)]
  constructor
  · intro h
    obtain ⟨j, hj, rfl⟩ := nI_of h.1
    refine ⟨j, ?_, rfl⟩
    have h2 := h.2
    rw [Int32.lt_iff_toInt_lt, e, nI_toInt hj] at h2
    omega
  · rintro ⟨k, hk, rfl⟩
    refine ⟨nI_pos (by omega), ?_⟩
    rw [Int32.lt_iff_toInt_lt, e, nI_toInt (by omega)]
    omega
theorem inB_iff2 {n : Nat} {i : Int32} (hn : n < 2 ^ 31) : inB i 0 (nI n) ↔ ∃ k, k ≤ n ∧ i = nI k := by
  constructor
  · intro h
    obtain ⟨j, hj, rfl⟩ := nI_of h.1
    refine ⟨j, ?_, rfl⟩
    rcases Nat.lt_or_ge n j with h1 | h1
    · exact absurd (nI_lt h1 hj) h.2
    · exact h1
  · rintro ⟨k, hk, rfl⟩
    exact ⟨nI_pos (by omega), fun h => nI_nlt hk hn h⟩
theorem hasSh_iff {n : Nat} {fl : FL} {i : Int32} (hn : n < 2 ^ 31) (e : fl 9 0 = nI n) : hasSh fl i ↔ ∃ k, k < n ∧ i = nI k := by
  unfold hasSh
  rw [e]
  constructor
  · intro h
    obtain ⟨j, hj, rfl⟩ := nI_of h.1
    refine ⟨j, ?_, rfl⟩
    rcases Nat.lt_or_ge j n with h1 | h1
    · exact h1
    · exact absurd (nI_le h1 hj) h.2
  · rintro ⟨k, hk, rfl⟩
    exact ⟨nI_pos (by omega), nI_ge hk hn⟩
theorem rget_k {N n k : Nat} {F : Nat → Int32} (hk : k < n) (hn : n ≤ N) (hN : N < 2 ^ 31) : rget N (nI n) F (nI k) = F k := by
  unfold rget
  rw [if_pos ((rin_iff hn hN).mpr ⟨k, hk, rfl⟩), nI_clamp (by omega)]
theorem rset_k {N n k : Nat} {F : Nat → Int32} {v : Int32} (hk : k < n) (hn : n ≤ N) (hN : N < 2 ^ 31) : rset N (nI n) F (nI k) v = upd F k v := by
  unfold rset
  rw [if_pos ((rin_iff hn hN).mpr ⟨k, hk, rfl⟩), nI_clamp (by omega)]
theorem mS_k {f : MF} {k : Nat} (hk : k < 10) : mS f (nI k) = f (9 + k) := by
  show f (nI 9 + nI k).toNatClampNeg = _
  rw [nI_add, nI_clamp (by omega)]
theorem mP_k {f : MF} {k w : Nat} (hk : k < 4) (hw : w < 2) : mP f (nI k) (nI w) = f (19 + 2 * k + w) := by
  show f (nI 19 + nI 2 * nI k + nI w).toNatClampNeg = _
  rw [nI_mul, nI_add, nI_add, nI_clamp (by omega)]
theorem mC_k {f : MF} {k w : Nat} (hk : k < 6) (hw : w < 4) : mC f (nI k) (nI w) = f (57 + 4 * k + w) := by
  show f (nI 57 + nI 4 * nI k + nI w).toNatClampNeg = _
  rw [nI_mul, nI_add, nI_add, nI_clamp (by omega)]
theorem sC_k {f : MF} {k w : Nat} {v : Int32} (hk : k < 6) (hw : w < 4) : sC f (nI k) (nI w) v = upd f (57 + 4 * k + w) v := by
  show upd f (nI 57 + nI 4 * nI k + nI w).toNatClampNeg v = _
  rw [nI_mul, nI_add, nI_add, nI_clamp (by omega)]
theorem mD_k {f : MF} {k h : Nat} (hk : k < 10) (hh : h < 3) : mD f (nI k) (nI h) = f (27 + 10 * h + k) - 1 := by
  show f (nI 27 + nI 10 * nI h + nI k).toNatClampNeg - 1 = _
  rw [nI_mul, nI_add, nI_add, nI_clamp (by omega)]
theorem dwF_k {f : MF} {k h : Nat} {v : Int32} (hk : k < 10) (hh : h < 3) : dwF f (nI k) (nI h) v = upd f (27 + 10 * h + k) v := by
  show upd f (nI 27 + nI 10 * nI h + nI k).toNatClampNeg v = _
  rw [nI_mul, nI_add, nI_add, nI_clamp (by omega)]
theorem fnd_congr {p q : Nat → Bool} : ∀ (d k : Nat), (∀ j, k ≤ j → j < k + d → p j = q j) → fnd p d k = fnd q d k
  | 0, _, _ => rfl
  | d + 1, k, h => by
    simp only [fnd]
    rw [h k (by omega) (by omega), fnd_congr d (k + 1) (fun j h1 h2 => h j (by omega) (by omega))]
/-- two searches that agree up to a place where both stop -/
theorem fnd_upto {p q : Nat → Bool} {m : Nat} : ∀ (d d' k : Nat), k ≤ m → m < k + d → m < k + d' → q m = true → (∀ j, k ≤ j → j ≤ m → p j = q j) → fnd p d k = fnd q d' k
  | 0, _, k, _, h2, _, _, _ => absurd h2 (by omega)
  | _ + 1, 0, k, _, _, h3, _, _ => absurd h3 (by omega)
  | d + 1, d' + 1, k, h1, h2, h3, hm, h => by
    simp only [fnd]
    rw [h k (by omega) h1]
    by_cases hq : q k = true
    · rw [if_pos hq, if_pos hq]
    · rw [if_neg hq, if_neg hq]
      have hkm : k ≠ m := fun e => hq (e ▸ hm)
      exact fnd_upto d d' (k + 1) (by omega) (by omega) (by omega) hm (fun j h4 h5 => h j (by omega) h5)
theorem fnd_some {p : Nat → Bool} : ∀ (d k : Nat), k + d < 2 ^ 31 → fnd p d k = -1 ∨ ∃ j, k ≤ j ∧ j < k + d ∧ fnd p d k = nI j
  | 0, _, _ => Or.inl rfl
  | d + 1, k, h => by
    simp only [fnd]
    by_cases hp : p k = true
    · rw [if_pos hp]; exact Or.inr ⟨k, by omega, by omega, rfl⟩
    · rw [if_neg hp]
      rcases fnd_some (p := p) d (k + 1) (by omega) with h1 | ⟨j, h1, h2, h3⟩
      · exact Or.inl h1
      · exact Or.inr ⟨j, by omega, by omega, h3⟩
theorem itr_rel {α β : Type} {st : Nat → α → α} {st' : Nat → β → β} {R : Nat → α → β → Prop} {a : α} {b : β} (h0 : R 0 a b) : ∀ n, (∀ k x y, k < n → R k x y → R (k + 1) (st k x) (st' k y)) → R n (itr st a n) (itr st' b n)
  | 0, _ => h0
  | n + 1, hs => hs n _ _ (by omega) (itr_rel h0 n (fun k x y hk => hs k x y (by omega)))
theorem itr_congr {α : Type} {st st' : Nat → α → α} {a : α} : ∀ n, (∀ k x, k < n → st k x = st' k x) → itr st a n = itr st' a n := fun n h =>
  itr_rel (R := fun _ x y => x = y) rfl n (fun k x y hk e => by subst e; exact h k x hk)
theorem nI_n1 {k : Nat} (h : k < 2 ^ 31) : ¬ nI k = -1 := nI_nm1 h
/-! the state of both -/
def EqS (ns : Nat) (fl : FL) (f : MF) : Prop := ∀ k, k < ns → ∃ a, a < 100 ∧ fl 0 k = nI a ∧ f (9 + k) = nI a
def EqP (np : Nat) (fl : FL) (f : MF) : Prop := (∀ k, k < np → ∃ a z, a < 100 ∧ 1 ≤ z ∧ z ≤ 9 ∧ fl 1 k = nI a ∧ fl 2 k = nI z ∧ f (19 + 2 * k) = nI a ∧ f (19 + 2 * k + 1) = nI z) ∧ ∀ k, k < 4 → ∃ z, z ≤ 9 ∧ f (19 + 2 * k + 1) = nI z
def EqD (ns nh : Nat) (fl : FL) (f : MF) : Prop := (∀ h, h < nh → ∀ k, k < 10 → ∃ a, a ≤ 100 ∧ fl 3 (10 * h + k) = nI a - 1 ∧ f (27 + 10 * h + k) = nI a) ∧ ∀ h, h < 3 → ∀ k, k < 10 → (nh ≤ h ∨ ns ≤ k) → fl 3 (10 * h + k) = -1
def EqC (nc : Nat) (fl : FL) (f : MF) : Prop := ∀ k, k < nc → ∃ a u, a < 100 ∧ u ≤ 20 ∧ fl 4 k = nI a ∧ f (57 + 4 * k) = nI a ∧ fl 5 k = nI u ∧ f (57 + 4 * k + 1) = nI u ∧ fl 6 k = f (57 + 4 * k + 2) ∧ fl 7 k = f (57 + 4 * k + 3) ∧ ∃ b, b ≤ 1 ∧ f (57 + 4 * k + 2) = nI b
def szC (ns np nh nc : Nat) (fl : FL) : Prop := fl 8 0 = nI ns ∧ fl 8 1 = nI np ∧ fl 8 2 = nI np ∧ fl 8 3 = nI 30 ∧ fl 8 4 = nI nc ∧ fl 8 5 = nI nc ∧ fl 8 6 = nI nc ∧ fl 8 7 = nI nc ∧ fl 9 0 = nI nh
def szM (ns np nh nc : Nat) (f : MF) : Prop := f 2 = nI ns ∧ f 3 = nI np ∧ f 4 = nI nh ∧ f 5 = nI nc
def sum7 (fl : FL) (nc : Nat) : Int32 := itr (fun k a => a + fl 7 k) 0 nc
def FP (ns np nh nc t dh cu : Nat) (fl : FL) (f : MF) : Prop :=
  (ns ≤ 10 ∧ np ≤ 4 ∧ nh ≤ 3 ∧ nc ≤ 6 ∧ t < 2 ^ 30 ∧ dh ≤ 9 ∧ cu ≤ 200) ∧ szC ns np nh nc fl ∧ szM ns np nh nc f ∧ (fl 9 1 = nI t ∧ f 0 = nI t) ∧ (fl 9 2 = nI dh ∧ f 1 = nI dh) ∧ (fl 9 3 = nI cu ∧ f 6 = nI cu) ∧ fl 9 4 = f 8 ∧ sum7 fl nc = f 7 ∧ EqS ns fl f ∧ EqP np fl f ∧ EqD ns nh fl f ∧ EqC nc fl f
def FR (n : Nat) (fl : FL) (f : MF) : Prop := ∃ ns np nh nc t dh cu : Nat, t ≤ n ∧ FP ns np nh nc t dh cu fl f
theorem FR.mono {n n' : Nat} {fl : FL} {f : MF} (h : FR n fl f) (hn : n ≤ n') : FR n' fl f := by
  obtain ⟨ns, np, nh, nc, t, dh, cu, ht, h⟩ := h
  exact ⟨ns, np, nh, nc, t, dh, cu, by omega, h⟩
def OpR (n : Nat) : OR → MR → Prop
  | .inl q, .inl r => q.1 = r.1 ∧ ¬ q.1 = -1 ∧ FR n q.2 r.2
  | .inr q, .inr r => q = r
  | _, _ => False
theorem OpR_if {n : Nat} {c c' : Prop} [Decidable c] [Decidable c'] {X Y : OR} {X' Y' : MR} (h : c ↔ c') (h1 : c → OpR n X X') (h2 : ¬ c → OpR n Y Y') : OpR n (if c then X else Y) (if c' then X' else Y') := by
  by_cases hc : c
  · rw [if_pos hc, if_pos (h.mp hc)]; exact h1 hc
  · rw [if_neg hc, if_neg (fun k => hc (h.mpr k))]; exact h2 hc
theorem OpR_no {n : Nat} {a b : Int32} {q : Int32 × Int32} (h1 : (a, b) = q) : OpR n (.inr (a, b)) (.inr q) := h1
section PU
variable {ns np nh nc t dh cu : Nat} {fl : FL} {f : MF}
theorem FP.pS (h : FP ns np nh nc t dh cu fl f) {k : Nat} (hk : k < ns) : ∃ a, a < 100 ∧ gS fl (nI k) = nI a ∧ mS f (nI k) = nI a := by
  obtain ⟨⟨b1, b2, b3, b4, -⟩, ⟨z1, -⟩, -, -, -, -, -, -, hS, -⟩ := h
  obtain ⟨a, h1, h2, h3⟩ := hS k hk
  refine ⟨a, h1, ?_, ?_⟩
  · show rget 10 (fl 8 0) (fl 0) (nI k) = _
    rw [z1, rget_k hk b1 (by decide), h2]
  · rw [mS_k (by omega), h3]
theorem FP.pP (h : FP ns np nh nc t dh cu fl f) {k : Nat} (hk : k < np) : ∃ a z, a < 100 ∧ 1 ≤ z ∧ z ≤ 9 ∧ gP fl (nI k) = nI a ∧ gH fl (nI k) = nI z ∧ mP f (nI k) 0 = nI a ∧ mP f (nI k) 1 = nI z := by
  obtain ⟨⟨b1, b2, b3, b4, -⟩, ⟨-, z1, z2, -⟩, -, -, -, -, -, -, -, hP, -⟩ := h
  obtain ⟨a, z, h1, h2, h3, h4, h5, h6, h7⟩ := hP.1 k hk
  refine ⟨a, z, h1, h2, h3, ?_, ?_, ?_, ?_⟩
  · show rget 4 (fl 8 1) (fl 1) (nI k) = _
    rw [z1, rget_k hk b2 (by decide), h4]
  · show rget 4 (fl 8 2) (fl 2) (nI k) = _
    rw [z2, rget_k hk b2 (by decide), h5]
  · exact (mP_k (w := 0) (by omega) (by omega)).trans h6
  · exact (mP_k (w := 1) (by omega) (by omega)).trans h7
theorem FP.pC (h : FP ns np nh nc t dh cu fl f) {k : Nat} (hk : k < nc) : ∃ a u, a < 100 ∧ u ≤ 20 ∧ gCa fl (nI k) = nI a ∧ mC f (nI k) 0 = nI a ∧ gTh fl (nI k) = nI u ∧ mC f (nI k) 1 = nI u ∧ gTi fl (nI k) = mC f (nI k) 2 ∧ gDk fl (nI k) = mC f (nI k) 3 := by
  obtain ⟨⟨b1, b2, b3, b4, -⟩, ⟨-, -, -, -, z4, z5, z6, z7, -⟩, -, -, -, -, -, -, -, -, -, hC⟩ := h
  obtain ⟨a, u, h1, h2, h3, h4, h5, h6, h7, h8, -⟩ := hC k hk
  have e : ∀ w, w < 4 → mC f (nI k) (nI w) = f (57 + 4 * k + w) := fun w hw => mC_k (by omega) hw
  refine ⟨a, u, h1, h2, ?_, (e 0 (by omega)).trans h4, ?_, (e 1 (by omega)).trans h6, ?_, ?_⟩
  · show rget 6 (fl 8 4) (fl 4) (nI k) = _
    rw [z4, rget_k hk b4 (by decide), h3]
  · show rget 6 (fl 8 5) (fl 5) (nI k) = _
    rw [z5, rget_k hk b4 (by decide), h5]
  · refine Eq.trans ?_ (e 2 (by omega)).symm
    show rget 6 (fl 8 6) (fl 6) (nI k) = _
    rw [z6, rget_k hk b4 (by decide), h7]
  · refine Eq.trans ?_ (e 3 (by omega)).symm
    show rget 6 (fl 8 7) (fl 7) (nI k) = _
    rw [z7, rget_k hk b4 (by decide), h8]
theorem FP.pD (h : FP ns np nh nc t dh cu fl f) {k j : Nat} (hk : k < ns) (hj : j < nh) : ∃ a, a ≤ 100 ∧ drawnF fl (nI k) (nI j) = nI a - 1 ∧ mD f (nI k) (nI j) = nI a - 1 := by
  obtain ⟨⟨b1, b2, b3, b4, -⟩, ⟨-, -, -, z3, -⟩, -, -, -, -, -, -, -, -, ⟨hD, -⟩, -⟩ := h
  obtain ⟨a, h1, h2, h3⟩ := hD j hj k (by omega)
  refine ⟨a, h1, ?_, ?_⟩
  · show rget 30 (fl 8 3) (fl 3) (nI j * nI 10 + nI k) = _
    rw [z3, nI_mul, nI_add, rget_k (by omega) (by omega) (by decide), ← h2, show j * 10 + k = 10 * j + k by omega]
  · rw [mD_k (by omega) (by omega), h3]
theorem FP.iS (h : FP ns np nh nc t dh cu fl f) {i : Int32} : rin 10 (fl 8 0) i ↔ ∃ k, k < ns ∧ i = nI k := by rw [h.2.1.1]; exact rin_iff h.1.1 (by decide)
theorem FP.iP (h : FP ns np nh nc t dh cu fl f) {i : Int32} : rin 4 (fl 8 1) i ↔ ∃ k, k < np ∧ i = nI k := by rw [h.2.1.2.1]; exact rin_iff h.1.2.1 (by decide)
theorem FP.iC (h : FP ns np nh nc t dh cu fl f) {i : Int32} : rin 6 (fl 8 4) i ↔ ∃ k, k < nc ∧ i = nI k := by rw [h.2.1.2.2.2.2.1]; exact rin_iff h.1.2.2.2.1 (by decide)
theorem FP.iH (h : FP ns np nh nc t dh cu fl f) {i : Int32} : hasSh fl i ↔ ∃ k, k < nh ∧ i = nI k := hasSh_iff (by have := h.1.2.2.1; omega) h.2.1.2.2.2.2.2.2.2.2
theorem FP.jS (h : FP ns np nh nc t dh cu fl f) {i : Int32} : inB i 0 (f 2 - 1) ↔ ∃ k, k < ns ∧ i = nI k := by rw [h.2.2.1.1]; exact inB_iff (by have := h.1.1; omega)
theorem FP.jP (h : FP ns np nh nc t dh cu fl f) {i : Int32} : inB i 0 (f 3 - 1) ↔ ∃ k, k < np ∧ i = nI k := by rw [h.2.2.1.2.1]; exact inB_iff (by have := h.1.2.1; omega)
theorem FP.jH (h : FP ns np nh nc t dh cu fl f) {i : Int32} : inB i 0 (f 4 - 1) ↔ ∃ k, k < nh ∧ i = nI k := by rw [h.2.2.1.2.2.1]; exact inB_iff (by have := h.1.2.2.1; omega)
theorem FP.jC (h : FP ns np nh nc t dh cu fl f) {i : Int32} : inB i 0 (f 5 - 1) ↔ ∃ k, k < nc ∧ i = nI k := by rw [h.2.2.1.2.2.2]; exact inB_iff (by have := h.1.2.2.2.1; omega)
theorem FP.ijS (h : FP ns np nh nc t dh cu fl f) {i : Int32} : rin 10 (fl 8 0) i ↔ inB i 0 (f 2 - 1) := h.iS.trans h.jS.symm
theorem FP.ijP (h : FP ns np nh nc t dh cu fl f) {i : Int32} : rin 4 (fl 8 1) i ↔ inB i 0 (f 3 - 1) := h.iP.trans h.jP.symm
theorem FP.ijC (h : FP ns np nh nc t dh cu fl f) {i : Int32} : rin 6 (fl 8 4) i ↔ inB i 0 (f 5 - 1) := h.iC.trans h.jC.symm
theorem FP.ijH (h : FP ns np nh nc t dh cu fl f) {i : Int32} : hasSh fl i ↔ inB i 0 (f 4 - 1) := h.iH.trans h.jH.symm
theorem FP.pmOk (h : FP ns np nh nc t dh cu fl f) : mOk f := by
  obtain ⟨⟨b1, b2, b3, b4, -⟩, -, ⟨e1, e2, e3, e4⟩, -⟩ := h
  refine ⟨?_, ?_, ?_, ?_⟩
  · rw [e1]; exact ⟨nI_pos (by omega), nI_le (b := 10) b1 (by decide)⟩
  · rw [e2]; exact ⟨nI_pos (by omega), nI_le (b := 4) b2 (by decide)⟩
  · rw [e3]; exact ⟨nI_pos (by omega), nI_le (b := 3) b3 (by decide)⟩
  · rw [e4]; exact ⟨nI_pos (by omega), nI_le (b := 6) b4 (by decide)⟩
/-! heat -/
def hT (dh t : Nat) : Nat := dh * min (t % 24) (24 - t % 24) / 6
theorem hT_le {dh t : Nat} (h : dh ≤ 9) : hT dh t ≤ 18 := by
  unfold hT
  have h1 : min (t % 24) (24 - t % 24) ≤ 12 := by omega
  have h2 : dh * min (t % 24) (24 - t % 24) ≤ 9 * 12 := Nat.mul_le_mul h h1
  omega
theorem midI_n {a : Nat} (h : a < 24) : midI (nI a) = nI (min a (24 - a)) := by
  unfold midI
  by_cases h1 : 12 < a
  · rw [if_pos (show (12 : Int32) < nI a from nI_lt (a := 12) h1 (by omega)), show (24 : Int32) = nI 24 from rfl, nI_sub (by omega), Nat.min_eq_right (by omega)]
  · rw [if_neg (show ¬ (12 : Int32) < nI a from nI_nlt (a := 12) (b := a) (by omega) (by decide)), Nat.min_eq_left (by omega)]
theorem heatI_n {dh t : Nat} (h : dh ≤ 9) (ht : t < 2 ^ 31) : heatI (nI dh) (nI t) = nI (hT dh t) := by
  unfold heatI hT
  have h1 : min (t % 24) (24 - t % 24) ≤ 12 := by omega
  have h2 : dh * min (t % 24) (24 - t % 24) ≤ 9 * 12 := Nat.mul_le_mul h h1
  rw [ofD_n ht, midI_n (Nat.mod_lt _ (by decide)), nI_mul, show (6 : Int32) = nI 6 from rfl, nI_div (by omega) (by decide)]
theorem minI_n {a b : Nat} (ha : a < 2 ^ 31) (hb : b < 2 ^ 31) : minI (nI a) (nI b) = nI (min a b) := by
  unfold minI
  by_cases h : b < a
  · rw [if_pos (nI_lt h ha), Nat.min_eq_right (by omega)]
  · rw [if_neg (fun q => nI_nlt (by omega) hb q), Nat.min_eq_left (by omega)]
theorem maxI_n {a b : Nat} (ha : a < 2 ^ 31) (hb : b < 2 ^ 31) : maxI (nI a) (nI b) = nI (max a b) := by
  unfold maxI
  by_cases h : a < b
  · rw [if_pos (nI_lt h hb), Nat.max_eq_right (by omega)]
  · rw [if_neg (fun q => nI_nlt (by omega) ha q), Nat.max_eq_left (by omega)]
theorem FP.heat (h : FP ns np nh nc t dh cu fl f) : hNow fl = nI (hT dh t) := by
  obtain ⟨⟨-, -, -, -, b5, b6, -⟩, -, -, ⟨e1, -⟩, ⟨e2, -⟩, -⟩ := h
  show heatI (fl 9 2) (fl 9 1) = _
  rw [e1, e2, heatI_n b6 (by omega)]
theorem FP.heatK (h : FP ns np nh nc t dh cu fl f) {k : Nat} (hk : k < 100) : heatI (fl 9 2) (fl 9 1 + nI k) = nI (hT dh (t + k)) := by
  obtain ⟨⟨-, -, -, -, b5, b6, -⟩, -, -, ⟨e1, -⟩, ⟨e2, -⟩, -⟩ := h
  rw [e1, e2, nI_add, heatI_n b6 (by omega)]
theorem FP.heatM (h : FP ns np nh nc t dh cu fl f) {k : Nat} (hk : k < 100) : mHb f (nI k) = nI (hT dh (t + k)) := by
  obtain ⟨⟨-, -, -, -, b5, b6, -⟩, -, -, ⟨-, e1⟩, ⟨-, e2⟩, -⟩ := h
  unfold mHb hT
  have h1 : min ((t + k) % 24) (24 - (t + k) % 24) ≤ 12 := by omega
  have h2 : dh * min ((t + k) % 24) (24 - (t + k) % 24) ≤ 9 * 12 := Nat.mul_le_mul b6 h1
  rw [e1, e2, nI_add, ofD_n (by omega), show (24 : Int32) = nI 24 from rfl, nI_sub (by omega), minI_n (by omega) (by omega), nI_mul, show (6 : Int32) = nI 6 from rfl, nI_div (by omega) (by decide)]
theorem FP.heatM0 (h : FP ns np nh nc t dh cu fl f) : mHb f 0 = nI (hT dh t) := h.heatM (k := 0) (by omega)
theorem FP.hle (h : FP ns np nh nc t dh cu fl f) {t' : Nat} : hT dh t' ≤ 18 := hT_le h.1.2.2.2.2.2.1
end PU
