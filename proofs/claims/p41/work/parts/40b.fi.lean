/-! WHAT HOLDS OF A FLAT IN EVERY RUN: its rows' numbers in their bounds; every change keeps it, and answers no negative number -/
def FIs (ns : Nat) (fl : FL) : Prop := ∀ k, k < ns → ∃ a, a < 100 ∧ fl 0 k = nI a
def FIp (np : Nat) (fl : FL) : Prop := ∀ k, k < np → ∃ a z, a < 100 ∧ 1 ≤ z ∧ z ≤ 9 ∧ fl 1 k = nI a ∧ fl 2 k = nI z
def FId (fl : FL) : Prop := ∀ j, j < 30 → ∃ a, a ≤ 100 ∧ fl 3 j = nI a - 1
def FIc (nc : Nat) (fl : FL) : Prop := ∀ k, k < nc → ∃ a u b, a < 100 ∧ u ≤ 20 ∧ b ≤ 1 ∧ fl 4 k = nI a ∧ fl 5 k = nI u ∧ fl 6 k = nI b
def FI (ns np nh nc t dh cu : Nat) (fl : FL) : Prop :=
  (ns ≤ 10 ∧ np ≤ 4 ∧ nh ≤ 3 ∧ nc ≤ 6 ∧ t < 2 ^ 30 ∧ dh ≤ 9 ∧ cu ≤ 200) ∧ szC ns np nh nc fl ∧ fl 9 1 = nI t ∧ fl 9 2 = nI dh ∧ fl 9 3 = nI cu ∧ FIs ns fl ∧ FIp np fl ∧ FId fl ∧ FIc nc fl
def GI (n : Nat) (fl : FL) : Prop := ∃ ns np nh nc t dh cu : Nat, t ≤ n ∧ FI ns np nh nc t dh cu fl
theorem GI.mono {n n' : Nat} {fl : FL} (h : GI n fl) (hn : n ≤ n') : GI n' fl := by
  obtain ⟨ns, np, nh, nc, t, dh, cu, ht, h⟩ := h
  exact ⟨ns, np, nh, nc, t, dh, cu, by omega, h⟩
def OpI (n : Nat) : OR → Prop
  | .inl q => (∃ v, v < 2 ^ 31 ∧ q.1 = nI v) ∧ GI n q.2
  | .inr _ => True
theorem OpI.mono {n n' : Nat} {r : OR} (h : OpI n r) (hn : n ≤ n') : OpI n' r := by
  cases r with
  | inl q => exact ⟨h.1, h.2.mono hn⟩
  | inr q => trivial
theorem OpI_if {n : Nat} {c : Prop} [Decidable c] {X Y : OR} (h1 : c → OpI n X) (h2 : ¬ c → OpI n Y) : OpI n (if c then X else Y) := by
  by_cases hc : c
  · rw [if_pos hc]; exact h1 hc
  · rw [if_neg hc]; exact h2 hc
section PU
variable {ns np nh nc t dh cu : Nat} {fl : FL}
theorem FI.iS (h : FI ns np nh nc t dh cu fl) {i : Int32} : rin 10 (fl 8 0) i ↔ ∃ k, k < ns ∧ i = nI k := by rw [h.2.1.1]; exact rin_iff h.1.1 (by decide)
theorem FI.iP (h : FI ns np nh nc t dh cu fl) {i : Int32} : rin 4 (fl 8 1) i ↔ ∃ k, k < np ∧ i = nI k := by rw [h.2.1.2.1]; exact rin_iff h.1.2.1 (by decide)
theorem FI.iC (h : FI ns np nh nc t dh cu fl) {i : Int32} : rin 6 (fl 8 4) i ↔ ∃ k, k < nc ∧ i = nI k := by rw [h.2.1.2.2.2.2.1]; exact rin_iff h.1.2.2.2.1 (by decide)
theorem FI.iH (h : FI ns np nh nc t dh cu fl) {i : Int32} : hasSh fl i ↔ ∃ k, k < nh ∧ i = nI k := hasSh_iff (by have := h.1.2.2.1; omega) h.2.1.2.2.2.2.2.2.2.2
theorem FI.pS (h : FI ns np nh nc t dh cu fl) {k : Nat} (hk : k < ns) : gS fl (nI k) = fl 0 k := by
  show rget 10 (fl 8 0) (fl 0) (nI k) = _
  rw [h.2.1.1, rget_k hk h.1.1 (by decide)]
theorem FI.pCa (h : FI ns np nh nc t dh cu fl) {k : Nat} (hk : k < nc) : gCa fl (nI k) = fl 4 k := by
  show rget 6 (fl 8 4) (fl 4) (nI k) = _
  rw [h.2.1.2.2.2.2.1, rget_k hk h.1.2.2.2.1 (by decide)]
theorem FI.pTh (h : FI ns np nh nc t dh cu fl) {k : Nat} (hk : k < nc) : gTh fl (nI k) = fl 5 k := by
  show rget 6 (fl 8 5) (fl 5) (nI k) = _
  rw [h.2.1.2.2.2.2.2.1, rget_k hk h.1.2.2.2.1 (by decide)]
theorem FI.pTi (h : FI ns np nh nc t dh cu fl) {k : Nat} (hk : k < nc) : gTi fl (nI k) = fl 6 k := by
  show rget 6 (fl 8 6) (fl 6) (nI k) = _
  rw [h.2.1.2.2.2.2.2.2.1, rget_k hk h.1.2.2.2.1 (by decide)]
theorem FI.pD (h : FI ns np nh nc t dh cu fl) {j k : Nat} (hj : j < 10) (hk : k < 3) : drawnF fl (nI j) (nI k) = fl 3 (10 * k + j) := by
  show rget 30 (fl 8 3) (fl 3) (nI k * nI 10 + nI j) = _
  rw [nI_mul, nI_add, h.2.1.2.2.2.1, rget_k (by omega) (Nat.le_refl _) (by decide), Nat.mul_comm]
theorem FI.heat (h : FI ns np nh nc t dh cu fl) : hNow fl = nI (hT dh t) := by
  obtain ⟨⟨-, -, -, -, b5, b6, -⟩, -, e1, e2, -⟩ := h
  show heatI (fl 9 2) (fl 9 1) = _
  rw [e1, e2, heatI_n b6 (by omega)]
theorem FI.hle (h : FI ns np nh nc t dh cu fl) {t' : Nat} : hT dh t' ≤ 18 := hT_le h.1.2.2.2.2.2.1
end PU
theorem FIs.of {ns : Nat} {fl fl' : FL} (h : FIs ns fl) (e : ∀ k, k < ns → fl' 0 k = fl 0 k) : FIs ns fl' := fun k hk => by rw [e k hk]; exact h k hk
theorem FIp.of {np : Nat} {fl fl' : FL} (h : FIp np fl) (e : ∀ k, k < np → fl' 1 k = fl 1 k ∧ fl' 2 k = fl 2 k) : FIp np fl' := fun k hk => by rw [(e k hk).1, (e k hk).2]; exact h k hk
theorem FId.of {fl fl' : FL} (h : FId fl) (e : fl' 3 = fl 3) : FId fl' := fun j hj => by rw [e]; exact h j hj
theorem FIc.of {nc : Nat} {fl fl' : FL} (h : FIc nc fl) (e : ∀ k, k < nc → fl' 4 k = fl 4 k ∧ fl' 5 k = fl 5 k ∧ fl' 6 k = fl 6 k) : FIc nc fl' := fun k hk => by rw [(e k hk).1, (e k hk).2.1, (e k hk).2.2]; exact h k hk
/-- a stake -/
theorem FI.stake {ns np nh nc t dh cu a : Nat} {fl : FL} (h : FI ns np nh nc t dh cu fl) (hn : ns < 10) (ha : a < 100) : FI (ns + 1) np nh nc t dh cu (upR fl 0 (nI (ns + 1)) (upd (fl 0) ns (nI a))) := by
  obtain ⟨⟨b1, b2, b3, b4, b5, b6, b7⟩, ⟨z0, z1, z2, z3, z4, z5, z6, z7, z8⟩, ht, hd, hc, hS, hP, hD, hC⟩ := h
  refine ⟨⟨by omega, b2, b3, b4, b5, b6, b7⟩, ⟨upR_sz, z1, z2, z3, z4, z5, z6, z7, z8⟩, ht, hd, hc, fun k hk => ?_, hP.of (fun k hk => ⟨rfl, rfl⟩), hD.of rfl, hC.of (fun k hk => ⟨rfl, rfl, rfl⟩)⟩
  rw [upR_r (by omega)]
  by_cases hkn : k = ns
  · subst hkn; exact ⟨a, ha, upd_at⟩
  · rw [upd_ne hkn]; exact hS k (by omega)
theorem oi_ds {n : Nat} {fl : FL} (h : GI n fl) (p : Int32) : OpI n (dsO fl p) := by
  obtain ⟨ns, np, nh, nc, t, dh, cu, htn, h⟩ := h
  unfold dsO
  refine OpI_if (fun _ => trivial) (fun c1 => OpI_if (fun _ => trivial) (fun c2 => OpI_if (fun _ => trivial) (fun c3 => ?_)))
  obtain ⟨a, ha, rfl⟩ := pl_of (Decidable.not_not.mp c1)
  have c2 : fl 8 0 < nI 10 := Decidable.not_not.mp c2
  have z0 := h.2.1.1
  have b1 := h.1.1
  rw [z0, nI_ltI (by omega) (by decide)] at c2
  obtain ⟨e1, e2⟩ := rAdd_k (v := nI a) z0 (n := 10) (by omega) (by decide)
  rw [e1, e2]
  exact ⟨⟨ns, by omega, rfl⟩, ns + 1, np, nh, nc, t, dh, cu, htn, h.stake c2 ha⟩
/-- a stake at a place where none is -/
theorem ds_ok {ns np nh nc t dh cu a : Nat} {fl : FL} (h : FI ns np nh nc t dh cu fl) (hn : ns < 10) (ha : a < 100) (hd : ∀ k, k < ns → ¬ fl 0 k = nI a) : dsO fl (nI a) = .inl (nI ns, upR fl 0 (nI (ns + 1)) (upd (fl 0) ns (nI a))) := by
  have z0 := h.2.1.1
  have b1 := h.1.1
  unfold dsO
  rw [if_neg (fun q => q ⟨nI_pos (by omega), nI_ge (b := 100) ha (by decide)⟩), if_neg (fun q => q (by rw [z0]; exact nI_lt hn (by decide))), if_neg]
  · obtain ⟨e1, e2⟩ := rAdd_k (v := nI a) z0 (n := 10) (by omega) (by decide)
    rw [e1, e2]
  · refine fun q => q ?_
    unfold rfind
    rw [z0, nI_clamp (by omega)]
    rw [fnd_congr (q := fun _ => false) ns 0 (fun j _ hj => ?_)]
    · have hf : ∀ (d k : Nat), fnd (fun _ => false) d k = -1 := by
        intro d
        induction d with
        | zero => intro k; rfl
        | succ d ih => intro k; simp only [fnd]; rw [if_neg (by decide)]; exact ih (k + 1)
      exact hf ns 0
    · rw [decide_eq_false_iff_not, rget_k (by omega) b1 (by decide)]
      exact hd j (by omega)
/-- a post -/
theorem FI.post {ns np nh nc t dh cu a y : Nat} {fl : FL} (h : FI ns np nh nc t dh cu fl) (hn : np < 4) (ha : a < 100) (hy1 : 1 ≤ y) (hy2 : y ≤ 9) : (rAddV (rAdd fl 2 4 (nI y)) 1 4 = nI np) ∧ FI ns (np + 1) nh nc t dh cu (rAdd (rAdd fl 2 4 (nI y)) 1 4 (nI a)) ∧ (rAdd (rAdd fl 2 4 (nI y)) 1 4 (nI a)) 0 = fl 0 := by
  obtain ⟨⟨b1, b2, b3, b4, b5, b6, b7⟩, ⟨z0, z1, z2, z3, z4, z5, z6, z7, z8⟩, ht, hd, hc, hS, hP, hD, hC⟩ := h
  obtain ⟨e1, e2⟩ := rAdd_k (v := nI y) z2 (n := 4) (by omega) (by decide)
  have z1' : (rAdd fl 2 4 (nI y)) 8 1 = nI np := by rw [e1, upR_z (by omega) (by omega), z1]
  obtain ⟨e3, e4⟩ := rAdd_k (v := nI a) z1' (n := 4) (by omega) (by decide)
  rw [e3, e1]
  rw [e1] at e4
  have r1 : (upR (upR fl 2 (nI (np + 1)) (upd (fl 2) np (nI y))) 1 (nI (np + 1)) (upd (upR fl 2 (nI (np + 1)) (upd (fl 2) np (nI y)) 1) np (nI a))) 1 = upd (fl 1) np (nI a) := by
    rw [upR_r (by omega), upR_o (by omega) (by omega)]
  have r2 : (upR (upR fl 2 (nI (np + 1)) (upd (fl 2) np (nI y))) 1 (nI (np + 1)) (upd (upR fl 2 (nI (np + 1)) (upd (fl 2) np (nI y)) 1) np (nI a))) 2 = upd (fl 2) np (nI y) := by
    rw [upR_o (by omega) (by omega), upR_r (by omega)]
  refine ⟨e4, ⟨⟨b1, by omega, b3, b4, b5, b6, b7⟩, ⟨z0, upR_sz, (upR_z (by omega) (by omega)).trans upR_sz, z3, z4, z5, z6, z7, z8⟩, ht, hd, hc, hS.of (fun k hk => rfl), fun k hk => ?_, hD.of rfl, hC.of (fun k hk => ⟨rfl, rfl, rfl⟩)⟩, rfl⟩
  rw [r1, r2]
  by_cases hkn : k = np
  · subst hkn; exact ⟨a, y, ha, hy1, hy2, upd_at, upd_at⟩
  · rw [upd_ne hkn, upd_ne hkn]; exact hP k (by omega)
theorem hgt_of {z : Int32} (h : ¬ (z < 1 ∨ ¬ z ≤ 9)) : ∃ y, 1 ≤ y ∧ y ≤ 9 ∧ z = nI y := by
  have c1 : ¬ z < 1 := fun q => h (Or.inl q)
  have c2 : z ≤ 9 := Decidable.not_not.mp (fun q => h (Or.inr q))
  have q0 : ¬ z < 0 := fun q => c1 (Int32.lt_of_lt_of_le q (by decide))
  obtain ⟨j, hj, rfl⟩ := nI_of q0
  refine ⟨j, ?_, (nI_leI (b := 9) hj (by decide)).mp c2, rfl⟩
  rcases Nat.lt_or_ge j 1 with q | q
  · exact absurd (nI_lt (b := 1) q (by decide)) c1
  · exact q
theorem oi_sp {n : Nat} {fl : FL} (h : GI n fl) (p z : Int32) : OpI n (spO fl p z) := by
  obtain ⟨ns, np, nh, nc, t, dh, cu, htn, h⟩ := h
  unfold spO
  refine OpI_if (fun _ => trivial) (fun c1 => OpI_if (fun _ => trivial) (fun c2 => ?_))
  obtain ⟨a, ha, rfl⟩ := pl_of (Decidable.not_not.mp (fun q => c1 (Or.inl q)))
  obtain ⟨y, hy1, hy2, rfl⟩ := hgt_of (fun q => c1 (Or.inr q))
  have c2 : fl 8 1 < nI 4 := Decidable.not_not.mp c2
  have b2 := h.1.2.1
  rw [h.2.1.2.1, nI_ltI (by omega) (by decide)] at c2
  obtain ⟨e1, e2, -⟩ := h.post c2 ha hy1 hy2
  exact ⟨⟨np, by omega, e1⟩, ns, np + 1, nh, nc, t, dh, cu, htn, e2⟩
theorem sp_ok {ns np nh nc t dh cu a y : Nat} {fl : FL} (h : FI ns np nh nc t dh cu fl) (hn : np < 4) (ha : a < 100) (hy1 : 1 ≤ y) (hy2 : y ≤ 9) : ∃ fl', spO fl (nI a) (nI y) = .inl (nI np, fl') ∧ FI ns (np + 1) nh nc t dh cu fl' ∧ fl' 0 = fl 0 := by
  obtain ⟨e1, e2, e3⟩ := h.post hn ha hy1 hy2
  refine ⟨_, ?_, e2, e3⟩
  unfold spO
  rw [if_neg, if_neg (fun q => q (by rw [h.2.1.2.1]; exact nI_lt hn (by decide))), e1]
  rintro (q | q | q)
  · exact q ⟨nI_pos (by omega), nI_ge (b := 100) ha (by decide)⟩
  · exact nI_nlt (b := 1) (a := y) hy1 (by omega) q
  · exact q (nI_le (b := 9) hy2 (by decide))
/-- a sheet -/
theorem FI.sheet {ns np nh nc t dh cu : Nat} {fl : FL} (h : FI ns np nh nc t dh cu fl) (hn : nh < 3) : FI ns np (nh + 1) nc t dh cu (up2 fl 9 0 (fl 9 0 + 1)) := by
  obtain ⟨⟨b1, b2, b3, b4, b5, b6, b7⟩, ⟨z0, z1, z2, z3, z4, z5, z6, z7, z8⟩, ht, hd, hc, hS, hP, hD, hC⟩ := h
  exact ⟨⟨b1, b2, by omega, b4, b5, b6, b7⟩, ⟨z0, z1, z2, z3, z4, z5, z6, z7, by rw [up2_at, z8, nI_1]⟩, ht, hd, hc, hS.of (fun k hk => rfl), hP.of (fun k hk => ⟨rfl, rfl⟩), hD.of rfl, hC.of (fun k hk => ⟨rfl, rfl, rfl⟩)⟩
theorem as_v {nh : Nat} {fl : FL} (z8 : fl 9 0 = nI nh) : up2 fl 9 0 (fl 9 0 + 1) 9 0 - 1 = nI nh := by rw [up2_at, z8, nI_1, nI_pred]
theorem oi_as {n : Nat} {fl : FL} (h : GI n fl) : OpI n (asO fl) := by
  obtain ⟨ns, np, nh, nc, t, dh, cu, htn, h⟩ := h
  unfold asO
  refine OpI_if (fun _ => trivial) (fun c2 => ?_)
  have z8 := h.2.1.2.2.2.2.2.2.2.2
  have b3 := h.1.2.2.1
  rw [z8, show (3 : Int32) = nI 3 from rfl, nI_ltI (by omega) (by decide), Decidable.not_not] at c2
  exact ⟨⟨nh, by omega, as_v z8⟩, ns, np, nh + 1, nc, t, dh, cu, htn, h.sheet c2⟩
theorem as_ok {ns np nh nc t dh cu : Nat} {fl : FL} (h : FI ns np nh nc t dh cu fl) (hn : nh < 3) : asO fl = .inl (nI nh, up2 fl 9 0 (fl 9 0 + 1)) := by
  have z8 := h.2.1.2.2.2.2.2.2.2.2
  unfold asO
  rw [if_neg (fun q => q (by rw [z8]; exact nI_lt (b := 3) hn (by decide))), as_v z8]
/-- the heat of the day -/
theorem FI.dayHeat {ns np nh nc t dh cu y : Nat} {fl : FL} (h : FI ns np nh nc t dh cu fl) (hy : y ≤ 9) : FI ns np nh nc t y cu (up2 fl 9 2 (nI y)) := by
  obtain ⟨⟨b1, b2, b3, b4, b5, b6, b7⟩, ⟨z0, z1, z2, z3, z4, z5, z6, z7, z8⟩, ht, hd, hc, hS, hP, hD, hC⟩ := h
  exact ⟨⟨b1, b2, b3, b4, b5, hy, b7⟩, ⟨z0, z1, z2, z3, z4, z5, z6, z7, z8⟩, ht, up2_at, hc, hS.of (fun k hk => rfl), hP.of (fun k hk => ⟨rfl, rfl⟩), hD.of rfl, hC.of (fun k hk => ⟨rfl, rfl, rfl⟩)⟩
theorem rng_of {z : Int32} {m : Nat} (hm : m < 2 ^ 31) (h1 : ¬ z < 0) (h2 : z ≤ nI m) : ∃ y, y ≤ m ∧ z = nI y := by
  obtain ⟨j, hj, rfl⟩ := nI_of h1
  exact ⟨j, (nI_leI hj hm).mp h2, rfl⟩
theorem oi_sh {n : Nat} {fl : FL} (h : GI n fl) (p : Int32) : OpI n (shO fl p) := by
  obtain ⟨ns, np, nh, nc, t, dh, cu, htn, h⟩ := h
  unfold shO
  refine OpI_if (fun _ => trivial) (fun c1 => ?_)
  obtain ⟨y, hy, rfl⟩ := rng_of (m := 9) (by decide) (fun q => c1 (Or.inl q)) (Decidable.not_not.mp (fun q => c1 (Or.inr q)))
  have hn := h.dayHeat hy
  exact ⟨⟨_, by have := hn.hle (t' := t); omega, hn.heat⟩, ns, np, nh, nc, t, y, cu, htn, hn⟩
theorem sh_ok {ns np nh nc t dh cu y : Nat} {fl : FL} (h : FI ns np nh nc t dh cu fl) (hy : y ≤ 9) : shO fl (nI y) = .inl (nI (hT y t), up2 fl 9 2 (nI y)) := by
  unfold shO
  rw [if_neg, (h.dayHeat hy).heat]
  rintro (q | q)
  · exact nI_pos (by omega) q
  · exact q (nI_le (b := 9) hy (by decide))
/-- a drawn place -/
theorem FI.draw {ns np nh nc t dh cu : Nat} {fl : FL} (h : FI ns np nh nc t dh cu fl) {k q a : Nat} (hk : k < 10) (hq : q < 3) (ha : a ≤ 100) {v : Int32} (hv : v = nI a - 1) : FI ns np nh nc t dh cu (sgF fl (nI k) (nI q) v) := by
  obtain ⟨⟨b1, b2, b3, b4, b5, b6, b7⟩, ⟨z0, z1, z2, z3, z4, z5, z6, z7, z8⟩, ht, hd, hc, hS, hP, hD, hC⟩ := h
  have ef : sgF fl (nI k) (nI q) v = up1 fl 3 (upd (fl 3) (10 * q + k) v) := by
    unfold sgF
    rw [z3, show (10 : Int32) = nI 10 from rfl, nI_mul, nI_add, rset_k (by omega) (by omega) (by decide), show q * 10 + k = 10 * q + k by omega]
  rw [ef]
  refine ⟨⟨b1, b2, b3, b4, b5, b6, b7⟩, ⟨z0, z1, z2, z3, z4, z5, z6, z7, z8⟩, ht, hd, hc, hS.of (fun k hk => rfl), hP.of (fun k hk => ⟨rfl, rfl⟩), fun j hj => ?_, hC.of (fun k hk => ⟨rfl, rfl, rfl⟩)⟩
  rw [up1_at]
  by_cases hji : j = 10 * q + k
  · exact ⟨a, ha, by rw [hji, upd_at, hv]⟩
  · rw [upd_ne hji]; exact hD j hj
theorem nearPl_b (p : Int32) : ∃ a, a < 100 ∧ nearPl p = nI a := by
  unfold nearPl maxI minI
  by_cases h1 : p < 99
  · rw [if_pos h1]
    by_cases h2 : 0 < p
    · rw [if_pos h2]
      obtain ⟨j, hj, rfl⟩ := nI_of (x := p) (fun q => absurd (Int32.lt_trans h2 q) (by decide))
      exact ⟨j, by have := (nI_ltI (b := 99) hj (by decide)).mp h1; omega, rfl⟩
    · rw [if_neg h2]; exact ⟨0, by omega, rfl⟩
  · rw [if_neg h1]; exact ⟨99, by omega, rfl⟩
theorem FI.sights {ns np nh nc t dh cu : Nat} {fl : FL} (h : FI ns np nh nc t dh cu fl) {v : Int32} : FI ns np nh nc t dh cu (up2 fl 9 4 v) := by
  obtain ⟨⟨b1, b2, b3, b4, b5, b6, b7⟩, ⟨z0, z1, z2, z3, z4, z5, z6, z7, z8⟩, ht, hd, hc, hS, hP, hD, hC⟩ := h
  exact ⟨⟨b1, b2, b3, b4, b5, b6, b7⟩, ⟨z0, z1, z2, z3, z4, z5, z6, z7, z8⟩, ht, hd, hc, hS.of (fun k hk => rfl), hP.of (fun k hk => ⟨rfl, rfl⟩), hD.of rfl, hC.of (fun k hk => ⟨rfl, rfl, rfl⟩)⟩
theorem FI.sighted {ns np nh nc t dh cu : Nat} {fl : FL} (h : FI ns np nh nc t dh cu fl) {i j k : Nat} (hi : i < ns) (hk : k < nh) : (∃ v, v < 2 ^ 31 ∧ seemF fl (nI i) (nI j) = nI v) ∧ FI ns np nh nc t dh cu (up2 (sgF fl (nI i) (nI k) (seemF fl (nI i) (nI j))) 9 4 (sgF fl (nI i) (nI k) (seemF fl (nI i) (nI j)) 9 4 + 1)) := by
  obtain ⟨a, ha, e⟩ := nearPl_b (gS fl (nI i) + bwF fl (nI i) (nI j) * bendF fl (nI i) (nI j))
  have e : seemF fl (nI i) (nI j) = nI a := e
  have b1 := h.1.1
  have b3 := h.1.2.2.1
  rw [e]
  exact ⟨⟨a, by omega, rfl⟩, (h.draw (v := nI a) (a := a + 1) (by omega) (by omega) (by omega) (nI_pred a).symm).sights⟩
theorem oi_sg {n : Nat} {fl : FL} (h : GI n fl) (s p q : Int32) : OpI n (sgO fl s p q) := by
  obtain ⟨ns, np, nh, nc, t, dh, cu, htn, h⟩ := h
  unfold sgO
  refine OpI_if (fun _ => trivial) (fun c1 => OpI_if (fun _ => trivial) (fun c2 => OpI_if (fun _ => trivial) (fun c3 => OpI_if (fun _ => trivial) (fun _ => ?_))))
  obtain ⟨i, hi, rfl⟩ := h.iS.mp (Decidable.not_not.mp c1)
  obtain ⟨j, hj, rfl⟩ := h.iP.mp (Decidable.not_not.mp c2)
  obtain ⟨k, hk, rfl⟩ := h.iH.mp (Decidable.not_not.mp c3)
  obtain ⟨e1, e2⟩ := h.sighted (j := j) hi hk
  exact ⟨e1, ns, np, nh, nc, t, dh, cu, htn, e2⟩
/-- a sight of what there is: drawn, or refused for the reason 5 -/
theorem sg_ok {ns np nh nc t dh cu : Nat} {fl : FL} (h : FI ns np nh nc t dh cu fl) {i j k : Nat} (hi : i < ns) (hj : j < np) (hk : k < nh) : (∃ d, sgO fl (nI i) (nI j) (nI k) = .inr (5, d)) ∨ ∃ v fl', v < 2 ^ 31 ∧ sgO fl (nI i) (nI j) (nI k) = .inl (nI v, fl') ∧ FI ns np nh nc t dh cu fl' ∧ fl' 0 = fl 0 := by
  unfold sgO
  rw [if_neg (fun q => q (h.iS.mpr ⟨i, hi, rfl⟩)), if_neg (fun q => q (h.iP.mpr ⟨j, hj, rfl⟩)), if_neg (fun q => q (h.iH.mpr ⟨k, hk, rfl⟩))]
  by_cases hq : htmF fl (nI i) (nI j) ≤ 0
  · rw [if_neg (fun q => q hq)]
    obtain ⟨⟨v, hv, e1⟩, e2⟩ := h.sighted (j := j) hi hk
    refine Or.inr ⟨v, _, hv, by rw [e1], by rw [← e1]; exact e2, ?_⟩
    rfl
  · rw [if_pos hq]; exact Or.inl ⟨_, rfl⟩
theorem oi_er {n : Nat} {fl : FL} (h : GI n fl) (s q : Int32) : OpI n (erO fl s q) := by
  obtain ⟨ns, np, nh, nc, t, dh, cu, htn, h⟩ := h
  unfold erO
  refine OpI_if (fun _ => trivial) (fun c1 => OpI_if (fun _ => trivial) (fun c3 => OpI_if (fun _ => trivial) (fun c4 => ?_)))
  obtain ⟨i, hi, rfl⟩ := h.iS.mp (Decidable.not_not.mp c1)
  obtain ⟨k, hk, rfl⟩ := h.iH.mp (Decidable.not_not.mp c3)
  have b1 := h.1.1
  have b3 := h.1.2.2.1
  obtain ⟨a, ha, e1⟩ := h.2.2.2.2.2.2.2.1 (10 * k + i) (by omega)
  rw [h.pD (by omega) (by omega), e1] at c4 ⊢
  rw [(m1_iff ha).1] at c4
  have e : nI a - 1 = nI (a - 1) := nI_sub (b := 1) (by omega)
  exact ⟨⟨a - 1, by omega, e⟩, ns, np, nh, nc, t, dh, cu, htn, h.draw (v := -1) (a := 0) (by omega) (by omega) (by omega) rfl⟩
/-- water -/
theorem FI.water {ns np nh nc t dh cu y : Nat} {fl : FL} (h : FI ns np nh nc t dh cu fl) (hy : y ≤ 200) : FI ns np nh nc t dh y (up2 fl 9 3 (nI y)) := by
  obtain ⟨⟨b1, b2, b3, b4, b5, b6, b7⟩, ⟨z0, z1, z2, z3, z4, z5, z6, z7, z8⟩, ht, hd, hc, hS, hP, hD, hC⟩ := h
  exact ⟨⟨b1, b2, b3, b4, b5, b6, hy⟩, ⟨z0, z1, z2, z3, z4, z5, z6, z7, z8⟩, ht, hd, up2_at, hS.of (fun k hk => rfl), hP.of (fun k hk => ⟨rfl, rfl⟩), hD.of rfl, hC.of (fun k hk => ⟨rfl, rfl, rfl⟩)⟩
theorem oi_bw {n : Nat} {fl : FL} (h : GI n fl) (u : Int32) : OpI n (bwO fl u) := by
  obtain ⟨ns, np, nh, nc, t, dh, cu, htn, h⟩ := h
  unfold bwO
  refine OpI_if (fun _ => trivial) (fun c1 => OpI_if (fun _ => trivial) (fun c4 => ?_))
  obtain ⟨y, hy, rfl⟩ := rng_of (z := u) (m := 100) (by decide) (fun q => c1 (Or.inl (Int32.lt_of_lt_of_le q (by decide)))) (Decidable.not_not.mp (fun q => c1 (Or.inr q)))
  have hc := h.2.2.2.2.1
  have b7 := h.1.2.2.2.2.2.2
  rw [hc, nI_add] at c4 ⊢
  have c5 : cu + y ≤ 200 := (nI_leI (b := 200) (by omega) (by decide)).mp (Decidable.not_not.mp c4)
  exact ⟨⟨cu + y, by omega, by show up2 fl 9 3 _ 9 3 = _; exact up2_at⟩, ns, np, nh, nc, t, dh, cu + y, htn, h.water c5⟩
/-- a camel -/
theorem FI.camel {ns np nh nc t dh cu a : Nat} {fl : FL} (h : FI ns np nh nc t dh cu fl) (hn : nc < 6) (ha : a < 100) : rAddV (rAdd (rAdd (rAdd fl 5 6 0) 6 6 0) 7 6 0) 4 6 = nI nc ∧ FI ns np nh (nc + 1) t dh cu (rAdd (rAdd (rAdd (rAdd fl 5 6 0) 6 6 0) 7 6 0) 4 6 (nI a)) ∧ rAdd (rAdd (rAdd (rAdd fl 5 6 0) 6 6 0) 7 6 0) 4 6 (nI a) 0 = fl 0 := by
  obtain ⟨⟨b1, b2, b3, b4, b5, b6, b7⟩, ⟨z0, z1, z2, z3, z4, z5, z6, z7, z8⟩, ht, hd, hc, hS, hP, hD, hC⟩ := h
  obtain ⟨e5, -⟩ := rAdd_k (v := 0) z5 (n := 6) (by omega) (by decide)
  generalize hA : rAdd fl 5 6 0 = A at *
  have y6 : A 8 6 = nI nc := by rw [e5, upR_z (by omega) (by omega), z6]
  obtain ⟨e6, -⟩ := rAdd_k (v := 0) y6 (n := 6) (by omega) (by decide)
  generalize hB : rAdd A 6 6 0 = B at *
  have y7 : B 8 7 = nI nc := by rw [e6, upR_z (by omega) (by omega), e5, upR_z (by omega) (by omega), z7]
  obtain ⟨e7, -⟩ := rAdd_k (v := 0) y7 (n := 6) (by omega) (by decide)
  generalize hC9 : rAdd B 7 6 0 = C at *
  have y4 : C 8 4 = nI nc := by rw [e7, upR_z (by omega) (by omega), e6, upR_z (by omega) (by omega), e5, upR_z (by omega) (by omega), z4]
  obtain ⟨e4, ev⟩ := rAdd_k (v := nI a) y4 (n := 6) (by omega) (by decide)
  generalize hD9 : rAdd C 4 6 (nI a) = D at *
  have r4 : D 4 = upd (fl 4) nc (nI a) := by rw [e4, upR_r (by omega), e7, upR_o (by omega) (by omega), e6, upR_o (by omega) (by omega), e5, upR_o (by omega) (by omega)]
  have r6 : D 6 = upd (fl 6) nc 0 := by rw [e4, upR_o (by omega) (by omega), e7, upR_o (by omega) (by omega), e6, upR_r (by omega), e5, upR_o (by omega) (by omega)]
  have r5 : D 5 = upd (fl 5) nc 0 := by rw [e4, upR_o (by omega) (by omega), e7, upR_o (by omega) (by omega), e6, upR_o (by omega) (by omega), e5, upR_r (by omega)]
  have ro : ∀ r, r < 4 ∨ 8 < r → D r = fl r := fun r hr => by rw [e4, upR_o (by omega) (by omega), e7, upR_o (by omega) (by omega), e6, upR_o (by omega) (by omega), e5, upR_o (by omega) (by omega)]
  have rz : ∀ r, r < 4 → D 8 r = fl 8 r := fun r hr => by rw [e4, upR_z (by omega) (by omega), e7, upR_z (by omega) (by omega), e6, upR_z (by omega) (by omega), e5, upR_z (by omega) (by omega)]
  have w4 : D 8 4 = nI (nc + 1) := by rw [e4, upR_sz]
  have w7 : D 8 7 = nI (nc + 1) := by rw [e4, upR_z (by omega) (by omega), e7, upR_sz]
  have w6 : D 8 6 = nI (nc + 1) := by rw [e4, upR_z (by omega) (by omega), e7, upR_z (by omega) (by omega), e6, upR_sz]
  have w5 : D 8 5 = nI (nc + 1) := by rw [e4, upR_z (by omega) (by omega), e7, upR_z (by omega) (by omega), e6, upR_z (by omega) (by omega), e5, upR_sz]
  have r9 := ro 9 (by omega)
  refine ⟨ev, ⟨⟨b1, b2, b3, by omega, b5, b6, b7⟩, ⟨by rw [rz 0 (by omega), z0], by rw [rz 1 (by omega), z1], by rw [rz 2 (by omega), z2], by rw [rz 3 (by omega), z3], w4, w5, w6, w7, by rw [r9, z8]⟩, by rw [r9]; exact ht, by rw [r9]; exact hd, by rw [r9]; exact hc, ?_, ?_, ?_, ?_⟩, ro 0 (by omega)⟩
  · exact hS.of (fun k hk => by rw [ro 0 (by omega)])
  · exact hP.of (fun k hk => ⟨by rw [ro 1 (by omega)], by rw [ro 2 (by omega)]⟩)
  · exact hD.of (ro 3 (by omega))
  · intro k hk
    rw [r4, r5, r6]
    by_cases hkn : k = nc
    · subst hkn
      exact ⟨a, 0, 0, ha, by omega, by omega, upd_at, upd_at, upd_at⟩
    · rw [upd_ne hkn, upd_ne hkn, upd_ne hkn]; exact hC k (by omega)
theorem oi_ca {n : Nat} {fl : FL} (h : GI n fl) (p : Int32) : OpI n (caO fl p) := by
  obtain ⟨ns, np, nh, nc, t, dh, cu, htn, h⟩ := h
  unfold caO
  refine OpI_if (fun _ => trivial) (fun c1 => OpI_if (fun _ => trivial) (fun c2 => ?_))
  obtain ⟨a, ha, rfl⟩ := pl_of (Decidable.not_not.mp c1)
  have b4 := h.1.2.2.2.1
  rw [h.2.1.2.2.2.2.1, nI_ltI (by omega) (by decide), Decidable.not_not] at c2
  obtain ⟨e1, e2, -⟩ := h.camel c2 ha
  exact ⟨⟨nc, by omega, e1⟩, ns, np, nh, nc + 1, t, dh, cu, htn, e2⟩
theorem ca_ok {ns np nh nc t dh cu a : Nat} {fl : FL} (h : FI ns np nh nc t dh cu fl) (hn : nc < 6) (ha : a < 100) : ∃ fl', caO fl (nI a) = .inl (nI nc, fl') ∧ FI ns np nh (nc + 1) t dh cu fl' ∧ fl' 0 = fl 0 := by
  obtain ⟨e1, e2, e3⟩ := h.camel hn ha
  refine ⟨_, ?_, e2, e3⟩
  unfold caO
  rw [if_neg (fun q => q ⟨nI_pos (by omega), nI_ge (b := 100) ha (by decide)⟩), if_neg (fun q => q (by rw [h.2.1.2.2.2.2.1]; exact nI_lt hn (by decide))), e1]
section PU
variable {ns np nh nc t dh cu : Nat} {fl : FL}
theorem FI.place (h : FI ns np nh nc t dh cu fl) {k x : Nat} (hk : k < nc) (hx : x < 100) : FI ns np nh nc t dh cu (up1 fl 4 (upd (fl 4) k (nI x))) := by
  obtain ⟨⟨b1, b2, b3, b4, b5, b6, b7⟩, ⟨z0, z1, z2, z3, z4, z5, z6, z7, z8⟩, ht, hd, hc, hS, hP, hD, hC⟩ := h
  refine ⟨⟨b1, b2, b3, b4, b5, b6, b7⟩, ⟨z0, z1, z2, z3, z4, z5, z6, z7, z8⟩, ht, hd, hc, hS.of (fun k hk => rfl), hP.of (fun k hk => ⟨rfl, rfl⟩), hD.of rfl, fun i hi => ?_⟩
  obtain ⟨a', u, b, q1, q2, q3, q4, q5, q6⟩ := hC i hi
  rw [up1_at]
  by_cases hik : i = k
  · subst hik; exact ⟨x, u, b, hx, q2, q3, upd_at, q5, q6⟩
  · exact ⟨a', u, b, q1, q2, q3, by rw [upd_ne hik, q4], q5, q6⟩
theorem FI.tied (h : FI ns np nh nc t dh cu fl) : ∃ c, c ≤ 6 ∧ rsum 6 (fl 8 6) (fl 6) = nI c := by
  obtain ⟨⟨b1, b2, b3, b4, b5, b6, b7⟩, ⟨z0, z1, z2, z3, z4, z5, z6, z7, z8⟩, ht, hd, hc, hS, hP, hD, hC⟩ := h
  have h1 : ∀ n, n ≤ nc → ∃ c, c ≤ n ∧ itr (fun k a => a + rget 6 (fl 8 6) (fl 6) (nI k)) 0 n = nI c := by
    intro n hn
    induction n with
    | zero => exact ⟨0, by omega, rfl⟩
    | succ n ih =>
      obtain ⟨c, i2, i3⟩ := ih (by omega)
      obtain ⟨a', u, b, q1, q2, q3, q4, q5, q6⟩ := hC n (by omega)
      refine ⟨c + b, by omega, ?_⟩
      show itr _ 0 n + rget 6 (fl 8 6) (fl 6) (nI n) = _
      rw [i3, z6, rget_k (by omega) (by omega) (by decide), q6, nI_add]
  obtain ⟨c, i2, i3⟩ := h1 nc (Nat.le_refl _)
  unfold rsum
  rw [show (fl 8 6).toNatClampNeg = nc by rw [z6, nI_clamp (by omega)]]
  exact ⟨c, by omega, i3⟩
theorem FI.thirst (h : FI ns np nh nc t dh cu fl) : ∃ c, c ≤ 20 * nc ∧ rsum 6 (fl 8 5) (fl 5) = nI c := by
  obtain ⟨⟨b1, b2, b3, b4, b5, b6, b7⟩, ⟨z0, z1, z2, z3, z4, z5, z6, z7, z8⟩, ht, hd, hc, hS, hP, hD, hC⟩ := h
  have h1 : ∀ n, n ≤ nc → ∃ c, c ≤ 20 * n ∧ itr (fun k a => a + rget 6 (fl 8 5) (fl 5) (nI k)) 0 n = nI c := by
    intro n hn
    induction n with
    | zero => exact ⟨0, by omega, rfl⟩
    | succ n ih =>
      obtain ⟨c, i2, i3⟩ := ih (by omega)
      obtain ⟨a', u, b, q1, q2, q3, q4, q5, q6⟩ := hC n (by omega)
      refine ⟨c + u, by omega, ?_⟩
      show itr _ 0 n + rget 6 (fl 8 5) (fl 5) (nI n) = _
      rw [i3, z5, rget_k (by omega) (by omega) (by decide), q5, nI_add]
  obtain ⟨c, i2, i3⟩ := h1 nc (Nat.le_refl _)
  unfold rsum
  rw [show (fl 8 5).toNatClampNeg = nc by rw [z5, nI_clamp (by omega)]]
  exact ⟨c, i2, i3⟩
theorem FI.tie (h : FI ns np nh nc t dh cu fl) {k b : Nat} (hk : k < nc) (hb : b ≤ 1) : FI ns np nh nc t dh cu (tiF fl (nI k) (nI b)) := by
  obtain ⟨⟨b1, b2, b3, b4, b5, b6, b7⟩, ⟨z0, z1, z2, z3, z4, z5, z6, z7, z8⟩, ht, hd, hc, hS, hP, hD, hC⟩ := h
  have e1 : tiF fl (nI k) (nI b) = up1 fl 6 (upd (fl 6) k (nI b)) := by
    show up1 fl 6 (rset 6 (fl 8 6) (fl 6) (nI k) (nI b)) = _
    rw [z6, rset_k hk b4 (by decide)]
  rw [e1]
  refine ⟨⟨b1, b2, b3, b4, b5, b6, b7⟩, ⟨z0, z1, z2, z3, z4, z5, z6, z7, z8⟩, ht, hd, hc, hS.of (fun k hk => rfl), hP.of (fun k hk => ⟨rfl, rfl⟩), hD.of rfl, fun i hi => ?_⟩
  obtain ⟨a', u, b', q1, q2, q3, q4, q5, q6⟩ := hC i hi
  rw [up1_at]
  by_cases hik : i = k
  · subst hik; exact ⟨a', u, b, q1, q2, hb, q4, q5, upd_at⟩
  · exact ⟨a', u, b', q1, q2, q3, q4, q5, by rw [upd_ne hik, q6]⟩
end PU
theorem oi_lo {n : Nat} {fl : FL} (h : GI n fl) (c : Int32) : OpI n (loO fl c) := by
  obtain ⟨ns, np, nh, nc, t, dh, cu, htn, h⟩ := h
  unfold loO
  refine OpI_if (fun _ => trivial) (fun c1 => OpI_if (fun _ => trivial) (fun c2 => ?_))
  obtain ⟨k, hk, rfl⟩ := h.iC.mp (Decidable.not_not.mp c1)
  have hn := h.tie hk (b := 0) (by omega)
  obtain ⟨y, q2, q3⟩ := hn.tied
  exact ⟨⟨y, by omega, q3⟩, ns, np, nh, nc, t, dh, cu, htn, hn⟩
theorem oi_ti {n : Nat} {fl : FL} (h : GI n fl) (c : Int32) : OpI n (tiO fl c) := by
  obtain ⟨ns, np, nh, nc, t, dh, cu, htn, h⟩ := h
  unfold tiO
  refine OpI_if (fun _ => trivial) (fun c1 => OpI_if (fun _ => trivial) (fun c2 => OpI_if (fun _ => trivial) (fun c3 => OpI_if (fun _ => trivial) (fun c4 => ?_))))
  obtain ⟨k, hk, rfl⟩ := h.iC.mp (Decidable.not_not.mp c1)
  have hn := h.tie hk (b := 1) (by omega)
  obtain ⟨y, q2, q3⟩ := hn.tied
  exact ⟨⟨y, by omega, q3⟩, ns, np, nh, nc, t, dh, cu, htn, hn⟩
theorem oi_wc {n : Nat} {fl : FL} (h : GI n fl) (c : Int32) : OpI n (wcO fl c) := by
  obtain ⟨ns, np, nh, nc, t, dh, cu, htn, h⟩ := h
  unfold wcO
  refine OpI_if (fun _ => trivial) (fun c1 => OpI_if (fun _ => trivial) (fun c2 => OpI_if (fun _ => trivial) (fun c3 => OpI_if (fun _ => trivial) (fun c4 => ?_))))
  obtain ⟨k, hk, rfl⟩ := h.iC.mp (Decidable.not_not.mp c1)
  have h0 := h
  obtain ⟨⟨b1, b2, b3, b4, b5, b6, b7⟩, ⟨z0, z1, z2, z3, z4, z5, z6, z7, z8⟩, ht, hd, hc, hS, hP, hD, hC⟩ := h
  obtain ⟨a, u, b, ha, hu, hb, e1, e2, e3⟩ := hC k hk
  have ec : cupI fl (nI k) = nI ((u + 1) / 2) := by
    show (gTh fl (nI k) + 1) / nI 2 = _
    rw [h0.pTh hk, e2, nI_1, nI_div (by omega) (by decide)]
  rw [ec, hc, Decidable.not_not, nI_leI (by omega) (by omega)] at c4
  generalize hy : (u + 1) / 2 = y at *
  have f1 : wc3 fl (nI k) = up1 (up1 (up2 fl 9 3 (nI (cu - y))) 5 (upd (fl 5) k 0)) 7 (upd (fl 7) k (fl 7 k + nI y)) := by
    show up1 (up1 (up2 fl 9 3 (fl 9 3 - cupI fl (nI k))) 5 (rset 6 (fl 8 5) (fl 5) (nI k) 0)) 7 (rset 6 (fl 8 7) (fl 7) (nI k) (rget 6 (fl 8 7) (fl 7) (nI k) + cupI fl (nI k))) = _
    rw [ec, hc, nI_sub c4, z5, z7, rset_k hk b4 (by decide), rset_k hk b4 (by decide), rget_k hk b4 (by decide)]
  rw [f1]
  refine ⟨⟨cu - y, by omega, rfl⟩, ns, np, nh, nc, t, dh, cu - y, htn, ?_⟩
  show FI ns np nh nc t dh (cu - y) (up1 (up1 (up2 fl 9 3 (nI (cu - y))) 5 (upd (fl 5) k 0)) 7 (upd (fl 7) k (fl 7 k + nI y)))
  refine ⟨⟨b1, b2, b3, b4, b5, b6, by omega⟩, ⟨z0, z1, z2, z3, z4, z5, z6, z7, z8⟩, ht, hd, rfl, hS.of (fun k hk => rfl), hP.of (fun k hk => ⟨rfl, rfl⟩), hD.of rfl, fun i hi => ?_⟩
  obtain ⟨a', u', b', q1, q2, q3, q4, q5, q6⟩ := hC i hi
  have r5 : (up1 (up1 (up2 fl 9 3 (nI (cu - y))) 5 (upd (fl 5) k 0)) 7 (upd (fl 7) k (fl 7 k + nI y))) 5 = upd (fl 5) k 0 := rfl
  rw [r5]
  by_cases hik : i = k
  · subst hik; exact ⟨a', 0, b', q1, by omega, q3, q4, upd_at, q6⟩
  · exact ⟨a', u', b', q1, q2, q3, q4, by rw [upd_ne hik, q5], q6⟩
/-- a camel is called -/
theorem FI.call {ns np nh nc t dh cu : Nat} {fl : FL} (h : FI ns np nh nc t dh cu fl) {k a : Nat} (hk : k < nc) (ha : a < 100) : FI ns np nh nc t dh cu (callF fl (nI k) (nI a)) := by
  obtain ⟨b, u, b', hb, hu, hb', e1, e2, e3⟩ := h.2.2.2.2.2.2.2.2 k hk
  have hb4 := h.1.2.2.2.1
  have z4 : fl 8 4 = nI nc := h.2.1.2.2.2.2.1
  unfold callF
  by_cases hc : roamP fl (nI k) ∧ ¬ 30 - hNow fl < absI (nI a - gCa fl (nI k))
  · rw [if_pos hc]
    have hm2 : minI (nI (dsN a b)) 10 = nI (min 10 (dsN b a)) := by
      rw [dsN_com, Nat.min_comm]
      exact minI_n (b := 10) (by unfold dsN; omega) (by decide)
    rw [h.pCa hk, e1, absI_n (by omega) (by omega), hm2]
    have key : ∀ x, x < 100 → FI ns np nh nc t dh cu (up1 fl 4 (rset 6 (fl 8 4) (fl 4) (nI k) (nI x))) := fun x hx => by
      have h1 := h.place hk hx
      rw [z4, rset_k hk hb4 (by decide)]
      exact h1
    unfold wayI
    by_cases hlt : a < b
    · rw [if_pos (nI_lt hlt (by omega)), m1_mul, ← Int32.sub_eq_add_neg, nI_sub (by unfold dsN; omega)]
      exact key _ (by omega)
    · rw [if_neg (nI_nlt (by omega) (by omega)), Int32.one_mul, nI_add]
      exact key (b + min 10 (dsN b a)) (by unfold dsN; omega)
  · rw [if_neg hc]
    exact h
theorem oi_rb {n : Nat} {fl : FL} (h : GI n fl) (p : Int32) : OpI n (rbO fl p) := by
  obtain ⟨ns, np, nh, nc, t, dh, cu, htn, h⟩ := h
  unfold rbO
  refine OpI_if (fun _ => trivial) (fun c1 => ?_)
  obtain ⟨a, ha, rfl⟩ := pl_of (Decidable.not_not.mp c1)
  have z4 : fl 8 4 = nI nc := h.2.1.2.2.2.2.1
  have hb4 := h.1.2.2.2.1
  rw [z4, nI_clamp (by omega)]
  have hl : ∀ k, k ≤ nc → (∃ c, c ≤ k ∧ (itr (rbS (nI a)) (0, fl) k).1 = nI c) ∧ FI ns np nh nc t dh cu (itr (rbS (nI a)) (0, fl) k).2 := by
    intro k hk
    induction k with
    | zero => exact ⟨⟨0, by omega, rfl⟩, h⟩
    | succ k ih =>
      obtain ⟨⟨c, q2, q3⟩, q4⟩ := ih (by omega)
      rw [show itr (rbS (nI a)) (0, fl) (k + 1) = rbS (nI a) k (itr (rbS (nI a)) (0, fl) k) from rfl]
      generalize itr (rbS (nI a)) (0, fl) k = x at *
      refine ⟨?_, q4.call (by omega) ha⟩
      show ∃ c, c ≤ k + 1 ∧ x.1 + (if gCa (callF x.2 (nI k) (nI a)) (nI k) = nI a then 1 else 0) = nI c
      rw [q3]
      by_cases hb : gCa (callF x.2 (nI k) (nI a)) (nI k) = nI a
      · rw [if_pos hb, nI_1]; exact ⟨c + 1, by omega, rfl⟩
      · rw [if_neg hb, Int32.add_zero]; exact ⟨c, by omega, rfl⟩
  obtain ⟨⟨c, q2, q3⟩, q4⟩ := hl nc (Nat.le_refl _)
  exact ⟨⟨c, by omega, q3⟩, ns, np, nh, nc, t, dh, cu, htn, q4⟩
