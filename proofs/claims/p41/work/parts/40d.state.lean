/-! THE CLASS'S STATE FROM CALL TO CALL: what a success and a refusal leave -/
def Aux0 (c : CS) : Prop := sgOk c ∧ lsOk c ∧ (¬ c 11 3 4 < 0 ∧ c 11 3 4 ≤ nI 79)
def Aux (c : CS) : Prop := Aux0 c ∧ c 11 3 1 = 0
def HsE (a b : CS) : Prop := b 2 = a 2 ∧ (∀ j, j < 8 → b (3 + j) = a (3 + j)) ∧ b 11 3 5 = a 11 3 5 ∧ b 11 3 6 = a 11 3 6 ∧ b 11 3 7 = a 11 3 7
def Rfd (a b : CS) : Prop := b 0 = a 0 ∧ HsE a b ∧ Aux b
def Rg (nx sz : Nat) (c : CS) : Prop := nx < 8 ∧ sz ≤ 8 ∧ c 11 3 6 = nI nx ∧ c 11 3 5 = nI sz
def nxt (nx : Nat) : Nat := if nx = 7 then 0 else nx + 1
theorem nxt_lt {nx : Nat} (h : nx < 8) : nxt nx < 8 := by unfold nxt; split <;> omega
def Scd (nx sz : Nat) (a b : CS) (fl : FL) : Prop := b 0 = fl ∧ b 2 = a 2 ∧ b 11 3 7 = a 11 3 7 ∧ Aux b ∧ b (3 + nx) = a 0 ∧ (∀ j, j < 8 → j ≠ nx → b (3 + j) = a (3 + j)) ∧ Rg (nxt nx) (min 8 (sz + 1)) b
theorem HsE.rf {a : CS} : HsE a a := ⟨rfl, fun _ _ => rfl, rfl, rfl, rfl⟩
theorem HsE.tr {a b c : CS} (h : HsE a b) (k : HsE b c) : HsE a c := ⟨k.1.trans h.1, fun j hj => (k.2.1 j hj).trans (h.2.1 j hj), k.2.2.1.trans h.2.2.1, k.2.2.2.1.trans h.2.2.2.1, k.2.2.2.2.trans h.2.2.2.2⟩
theorem Rfd.tr {a b c : CS} (h : Rfd a b) (k : Rfd b c) : Rfd a c := ⟨k.1.trans h.1, h.2.1.tr k.2.1, k.2.2⟩
theorem Rg.keep {nx sz : Nat} {a b : CS} (h : Rg nx sz a) (k : HsE a b) : Rg nx sz b := ⟨h.1, h.2.1, k.2.2.2.1.trans h.2.2.1, k.2.2.1.trans h.2.2.2⟩
theorem Rg.ok {nx sz : Nat} {a : CS} (h : Rg nx sz a) : nxOk a := by
  unfold nxOk
  rw [h.2.2.1]
  exact ⟨nI_pos (by have := h.1; omega), nI_ge h.1 (by decide)⟩
theorem Aux0.of {a b : CS} (h : Aux0 a) (e1 : b 11 1 = a 11 1) (e2 : b 11 2 = a 11 2) (e4 : b 11 3 4 = a 11 3 4) : Aux0 b := ⟨sgOk_of h.1 e1, fun k => by rw [e2]; exact h.2.1 k, by rw [e4]; exact h.2.2⟩
/-- what is kept in the ring -/
theorem kpS_f {u : CS} {nx sz : Nat} (h : Rg nx sz u) : (∀ k, k ≠ 11 → kpS u k = if k = 3 + nx then u 1 else u k) ∧ Rg (nxt nx) (min 8 (sz + 1)) (kpS u) ∧ (∀ j, j ≠ 5 → j ≠ 6 → kpS u 11 3 j = u 11 3 j) ∧ (∀ k, k ≠ 3 → kpS u 11 k = u 11 k) := by
  obtain ⟨h1, h2, h6, h5⟩ := h
  have eA : kpA u = upC u (3 + nx) (u 1) := by
    unfold kpA
    rw [h6, nI_clamp (by omega)]
  have a11 : kpA u 11 = u 11 := by rw [eA]; exact upC_ne (by omega)
  have v6 : (if 8 ≤ kpA u 11 3 6 + 1 then (0 : Int32) else kpA u 11 3 6 + 1) = nI (nxt nx) := by
    rw [a11, h6, nI_1]
    unfold nxt
    by_cases q : nx = 7
    · subst q; rfl
    · rw [if_neg q, if_neg (show ¬ (8 : Int32) ≤ nI (nx + 1) from nI_ge (b := 8) (by omega) (by decide))]
  have eB : kpB u = upS (kpA u) 6 (nI (nxt nx)) := by
    unfold kpB
    rw [v6]
  have v5 : minI 8 (kpB u 11 3 5 + 1) = nI (min 8 (sz + 1)) := by
    rw [eB, upS_s (by omega), a11, h5, nI_1]
    exact minI_n (a := 8) (by decide) (by omega)
  have eK : kpS u = upS (upS (kpA u) 6 (nI (nxt nx))) 5 (nI (min 8 (sz + 1))) := by
    unfold kpS
    rw [v5, eB]
  rw [eK]
  refine ⟨fun k hk => ?_, ⟨nxt_lt h1, by omega, ?_, ?_⟩, fun j j5 j6 => ?_, fun k hk => ?_⟩
  · rw [upS_f hk, upS_f hk, eA]
    unfold upC
    rfl
  · rw [upS_s (by omega)]
    show up2 (kpA u 11) 3 6 (nI (nxt nx)) 3 6 = _
    exact up2_at
  · show up2 (upS (kpA u) 6 (nI (nxt nx)) 11) 3 5 (nI (min 8 (sz + 1))) 3 5 = _
    exact up2_at
  · rw [upS_s j5, upS_s j6, a11]
  · rw [upS_r hk, upS_r hk, a11]
def vO (r : OR) : Int32 := if ¬ rvC r = -1 then rvC r else (-1001)
def sO (c : CS) (r : OR) : CS := if ¬ rvC r = -1 then kpS (rsC (bgS c) r) else rsC (bgS c) r
theorem bgS_k {c : CS} {k : Nat} (h1 : k ≠ 1) (h : k ≠ 11) : bgS c k = c k := by
  unfold bgS
  rw [upS_f h, upC_ne h1]
theorem bgS_1 {c : CS} : bgS c 1 = c 0 := by
  unfold bgS
  rw [upS_f (by omega), upC_at]
theorem bgS_11 {c : CS} {k : Nat} (h : k ≠ 3) : bgS c 11 k = c 11 k := by
  unfold bgS
  rw [upS_r h, upC_ne (by omega)]
theorem bgS_s {c : CS} {j : Nat} (h : j ≠ 9) : bgS c 11 3 j = c 11 3 j := by
  unfold bgS
  rw [upS_s h, upC_ne (by omega)]
/-- a success -/
theorem op_suc {c : CS} {w nx sz : Nat} {fl : FL} (hw : w < 2 ^ 31) (hA : Aux c) (hR : Rg nx sz c) : vO (.inl (nI w, fl)) = nI w ∧ Scd nx sz c (sO c (.inl (nI w, fl))) fl := by
  have hn : ¬ rvC (.inl (nI w, fl)) = -1 := nI_n1 hw
  have hu : Rg nx sz (upC (bgS c) 0 fl) := ⟨hR.1, hR.2.1, hR.2.2.1, hR.2.2.2⟩
  obtain ⟨k1, k2, k3, k4⟩ := kpS_f hu
  refine ⟨by unfold vO; rw [if_pos hn]; rfl, ?_⟩
  unfold sO
  rw [if_pos hn, rsC_l]
  refine ⟨?_, ?_, ?_, ⟨?_, ?_⟩, ?_, ?_, k2⟩
  · rw [k1 0 (by omega), if_neg (by omega), upC_at]
  · rw [k1 2 (by omega), if_neg (by omega), upC_ne (by omega), bgS_k (by omega) (by omega)]
  · rw [k3 7 (by omega) (by omega), upC_ne (by omega), bgS_s (by omega)]
  · exact hA.1.of (by rw [k4 1 (by omega), upC_ne (by omega), bgS_11 (by omega)]) (by rw [k4 2 (by omega), upC_ne (by omega), bgS_11 (by omega)]) (by rw [k3 4 (by omega) (by omega), upC_ne (by omega), bgS_s (by omega)])
  · rw [k3 1 (by omega) (by omega), upC_ne (by omega), bgS_s (by omega)]; exact hA.2
  · have := hR.1
    rw [k1 _ (by omega), if_pos rfl, upC_ne (by omega), bgS_1]
  · intro j hj hjn
    rw [k1 _ (by omega), if_neg (by omega), upC_ne (by omega), bgS_k (by omega) (by omega)]
/-- a refusal -/
theorem op_ref {c : CS} {k d : Int32} (hA : Aux c) : vO (.inr (k, d)) = -1001 ∧ Rfd c (sO c (.inr (k, d))) ∧ sO c (.inr (k, d)) 11 3 10 = k ∧ sO c (.inr (k, d)) 11 3 11 = d ∧ sO c (.inr (k, d)) 11 3 12 = 0 ∧ sO c (.inr (k, d)) 11 3 8 = c 11 3 8 := by
  have hn : ¬ ¬ rvC (.inr (k, d)) = -1 := fun q => q rfl
  refine ⟨by unfold vO; rw [if_neg hn], ?_⟩
  have e : sO c (.inr (k, d)) = rfS (bgS c) k d := by unfold sO; rw [if_neg hn]; rfl
  rw [e]
  have r1 : ∀ q, q ≠ 11 → rfS (bgS c) k d q = bgS c q := fun q hq => by unfold rfS; rw [upS_f hq, upS_f hq, upS_f hq]
  have r2 : ∀ q, q ≠ 3 → rfS (bgS c) k d 11 q = bgS c 11 q := fun q hq => by unfold rfS; rw [upS_r hq, upS_r hq, upS_r hq]
  have r3 : ∀ q, q ≠ 10 → q ≠ 11 → q ≠ 12 → rfS (bgS c) k d 11 3 q = bgS c 11 3 q := fun q h1 h2 h3 => by unfold rfS; rw [upS_s h3, upS_s h2, upS_s h1]
  refine ⟨⟨?_, ⟨?_, ?_, ?_, ?_, ?_⟩, ?_, ?_⟩, rfl, rfl, ?_, ?_⟩
  · rw [r1 0 (by omega), bgS_k (by omega) (by omega)]
  · rw [r1 2 (by omega), bgS_k (by omega) (by omega)]
  · intro j hj
    rw [r1 _ (by omega), bgS_k (by omega) (by omega)]
  · rw [r3 5 (by omega) (by omega) (by omega), bgS_s (by omega)]
  · rw [r3 6 (by omega) (by omega) (by omega), bgS_s (by omega)]
  · rw [r3 7 (by omega) (by omega) (by omega), bgS_s (by omega)]
  · exact hA.1.of (by rw [r2 1 (by omega), bgS_11 (by omega)]) (by rw [r2 2 (by omega), bgS_11 (by omega)]) (by rw [r3 4 (by omega) (by omega) (by omega), bgS_s (by omega)])
  · rw [r3 1 (by omega) (by omega) (by omega), bgS_s (by omega)]; exact hA.2
  · rfl
  · rw [r3 8 (by omega) (by omega) (by omega), bgS_s (by omega)]
theorem op_cases {n nx sz : Nat} {c : CS} {r : OR} (hr : OpI n r) (hA : Aux c) (hR : Rg nx sz c) : (∃ w fl, w < 2 ^ 31 ∧ vO r = nI w ∧ Scd nx sz c (sO c r) fl ∧ GI n fl) ∨ (vO r = -1001 ∧ Rfd c (sO c r)) := by
  cases r with
  | inl q =>
    obtain ⟨v, fl⟩ := q
    obtain ⟨⟨w, hw, e⟩, hg⟩ := hr
    have e : v = nI w := e
    subst e
    obtain ⟨e1, e2⟩ := op_suc (fl := fl) hw hA hR
    exact Or.inl ⟨w, fl, hw, e1, e2, hg⟩
  | inr q =>
    obtain ⟨k, d⟩ := q
    obtain ⟨e1, e2, -⟩ := op_ref (k := k) (d := d) hA
    exact Or.inr ⟨e1, e2⟩
/-! commands -/
theorem ccL_v : ∀ (d k : Nat) (c : CS), k + d < 2 ^ 31 → (ccL d k c).1 = -1 ∨ ∃ j, k ≤ j ∧ j ≤ k + d ∧ (ccL d k c).1 = nI j
  | 0, _, _, _ => Or.inl rfl
  | d + 1, k, c, h => by
    unfold ccL
    by_cases c1 : ¬ rcP c
    · rw [if_pos c1]; exact Or.inl rfl
    · rw [if_neg c1]
      by_cases c2 : ¬ rcS c 11 3 2 < rcS c 11 3 1
      · rw [if_pos c2]; exact Or.inr ⟨k, by omega, by omega, rfl⟩
      · rw [if_neg c2]
        by_cases c3 : ¬ rsP (rcS c) 59
        · rw [if_pos c3]; exact Or.inl rfl
        · rw [if_neg c3]
          rcases ccL_v d (k + 1) (rsS (rcS c) 59) (by omega) with h1 | ⟨j, h1, h2, h3⟩
          · exact Or.inl h1
          · exact Or.inr ⟨j, by omega, by omega, h3⟩
/-- what a command of a text leaves as it was -/
def CmK (a b : CS) : Prop := (∀ j, j ≠ 0 → j ≠ 11 → b j = a j) ∧ b 11 1 = a 11 1 ∧ b 11 2 = a 11 2 ∧ ∀ j, j = 1 ∨ j = 4 ∨ j = 5 ∨ j = 6 ∨ j = 7 ∨ j = 8 → b 11 3 j = a 11 3 j
theorem CmK.rf {a : CS} : CmK a a := ⟨fun _ _ _ => rfl, rfl, rfl, fun _ _ => rfl⟩
theorem CmK.tr {a b c : CS} (h : CmK a b) (k : CmK b c) : CmK a c := ⟨fun j h0 h1 => (k.1 j h0 h1).trans (h.1 j h0 h1), k.2.1.trans h.2.1, k.2.2.1.trans h.2.2.1, fun j hj => (k.2.2.2 j hj).trans (h.2.2.2 j hj)⟩
theorem CmK.ofSe {a b : CS} (h : pSe a b) : CmK a b := ⟨fun j _ h1 => h.1 j h1, h.2.1, h.2.2.1, fun j hj => h.2.2.2 j (by omega) (by omega) (by omega)⟩
theorem cm1_K {u : CS} {k : Nat} : CmK u (cm1 u k) := by
  refine CmK.tr ?_ (CmK.ofSe pSe_rc)
  exact ⟨fun j _ h1 => upS_f h1, upS_r (by omega), upS_r (by omega), fun j hj => upS_s (by omega)⟩
theorem cm1_0 {u : CS} {k : Nat} : cm1 u k 0 = u 0 := (pSe_rc.1 0 (by omega)).trans (upS_f (by omega))
theorem cm2_K {u : CS} {k : Nat} : CmK u (cm2 u k) := by
  have h1 : CmK (cm1 u k) (rsC (cm1 u k) (cmR (cm1 u k))) := ⟨fun j h0 h1 => rsC_f h0 h1, rsC_r1 (by omega), rsC_r1 (by omega), fun j hj => rsC_11 (by omega) (by omega) (by omega)⟩
  have h2 : CmK (rsC (cm1 u k) (cmR (cm1 u k))) (cm2 u k) := CmK.ofSe (show pSe (rsC (cm1 u k) (cmR (cm1 u k))) (cm2 u k) from pSe_rs)
  exact (cm1_K (k := k)).tr (h1.tr h2)
theorem cm2_0 {u : CS} {k : Nat} : cm2 u k 0 = rsC (cm1 u k) (cmR (cm1 u k)) 0 := pSe_rs.1 0 (by omega)
theorem cm2_G {n k : Nat} {u : CS} (h : GI n (u 0)) (hn : n + 48 < 2 ^ 30) : GI (n + 48) (cm2 u k 0) ∧ (rvC (cmR (cm1 u k)) = -1 → cm2 u k 0 = u 0) := by
  rw [cm2_0]
  have h1 : GI n (cm1 u k 0) := by rw [cm1_0]; exact h
  have hr : OpI (n + 48) (cmR (cm1 u k)) := oi_co h1 hn _ _ _ _
  cases hc : cmR (cm1 u k) with
  | inl q =>
    rw [hc] at hr
    obtain ⟨⟨v, hv, e⟩, hg⟩ := hr
    refine ⟨by show GI _ (upC (cm1 u k) 0 q.2 0); rw [upC_at]; exact hg, fun q9 => ?_⟩
    have q9 : q.1 = -1 := q9
    rw [e] at q9
    exact absurd q9 (nI_n1 hv)
  | inr q =>
    have e0 : rsC (cm1 u k) (.inr q) 0 = u 0 := by
      show rfS (cm1 u k) q.1 q.2 0 = _
      unfold rfS
      rw [upS_f (by omega), upS_f (by omega), upS_f (by omega), cm1_0]
    rw [e0]
    exact ⟨h.mono (by omega), fun _ => rfl⟩
theorem cmL_K : ∀ (d k : Nat) (u : CS) (n : Nat), GI n (u 0) → n + 48 * d < 2 ^ 30 → ∀ r, cmL d k u = r → GI (n + 48 * d) (r.2 0) ∧ CmK u r.2 := by
  intro d
  induction d with
  | zero =>
    intro k u n h _ r hr
    rw [cmL_0] at hr
    subst hr
    exact ⟨h, CmK.rf⟩
  | succ d ih =>
    intro k u n h hn r hr
    obtain ⟨g1, g2⟩ := cm2_G (k := k) h (by omega)
    have hk : CmK u (cm2 u k) := cm2_K
    have e1 := fun c => @cmL_t d k u c
    have e2 := fun c => @cmL_f d k u c
    clear g2
    generalize cm2 u k = v at g1 hk e1 e2
    by_cases c : rvC (cmR (cm1 u k)) = -1
    · rw [e1 c] at hr
      subst hr
      exact ⟨GI.mono g1 (by omega), hk⟩
    · rw [e2 c] at hr
      obtain ⟨q1, q2⟩ := ih (k + 1) v (n + 48) g1 (by omega) r hr
      exact ⟨GI.mono q1 (by omega), hk.tr q2⟩
theorem cmI_K {c : CS} : (∀ j, j ≠ 1 → j ≠ 11 → cmI c j = c j) ∧ cmI c 1 = c 0 ∧ cmI c 11 1 = c 11 1 ∧ cmI c 11 2 = c 11 2 ∧ ∀ j, j = 1 ∨ j = 4 ∨ j = 5 ∨ j = 6 ∨ j = 7 → cmI c 11 3 j = c 11 3 j := by
  have e := pSe_cc (cs := c)
  unfold cmI
  refine ⟨fun j h1 h11 => ?_, ?_, ?_, ?_, fun j hj => ?_⟩
  · rw [upS_f h11, bgS_k h1 h11, upS_f h11, e.1 j h11]
  · rw [upS_f (by omega), bgS_1, upS_f (by omega), e.1 0 (by omega)]
  · rw [upS_r (by omega), bgS_11 (by omega), upS_r (by omega), e.2.1]
  · rw [upS_r (by omega), bgS_11 (by omega), upS_r (by omega), e.2.2.1]
  · rw [upS_s (by omega), bgS_s (by omega), upS_s (by omega), e.2.2.2 j (by omega) (by omega) (by omega)]
theorem cmd_cases {n nx sz : Nat} {c : CS} (hg : GI n (c 0)) (hn : n + 48 * 61 < 2 ^ 30) (hA : Aux0 c) (hR : Rg nx sz c) : (∃ w fl, w < 2 ^ 31 ∧ v_commands c = nI w ∧ Scd nx sz c (s_commands c) fl ∧ GI (n + 48 * 61) fl) ∨ ((v_commands c = -1001 ∨ v_commands c = -1002) ∧ Rfd c (s_commands c)) := by
  unfold v_commands s_commands
  have ecc := pSe_cc (cs := c)
  by_cases c1 : ¬ ccV c = -1
  · rw [if_pos c1, if_pos c1]
    obtain ⟨j, hj1, hj2, hj3⟩ := (ccL_v 60 1 (upS c 2 0) (by omega)).resolve_left c1
    have hj3 : ccV c = nI j := hj3
    obtain ⟨i1, i2, i3, i4, i5⟩ := cmI_K (c := c)
    have hg0 : GI n (cmI c 0) := by rw [i1 0 (by omega) (by omega)]; exact hg
    have hE : GI (n + 48 * j) ((cmE c).2 0) ∧ CmK (cmI c) (cmE c).2 := by
      unfold cmE
      rw [hj3, nI_clamp (by omega)]
      exact cmL_K j 0 (cmI c) n hg0 (by omega) _ rfl
    obtain ⟨g1, k1, k2, k3, k4⟩ := hE
    generalize (cmE c).2 = E at *
    by_cases c2 : (cmE c).1 = true
    · rw [if_pos c2, if_pos c2]
      have hu : Rg nx sz (upS E 1 0) := ⟨hR.1, hR.2.1, by rw [upS_s (by omega), k4 6 (by omega), i5 6 (by omega)]; exact hR.2.2.1, by rw [upS_s (by omega), k4 5 (by omega), i5 5 (by omega)]; exact hR.2.2.2⟩
      obtain ⟨p1, p2, p3, p4⟩ := kpS_f hu
      have hnx := hR.1
      refine Or.inl ⟨j, E 0, by omega, hj3, ⟨?_, ?_, ?_, ⟨?_, ?_⟩, ?_, ?_, p2⟩, g1.mono (by omega)⟩
      · rw [p1 0 (by omega), if_neg (by omega), upS_f (by omega)]
      · rw [p1 2 (by omega), if_neg (by omega), upS_f (by omega), k1 2 (by omega) (by omega), i1 2 (by omega) (by omega)]
      · rw [p3 7 (by omega) (by omega), upS_s (by omega), k4 7 (by omega), i5 7 (by omega)]
      · exact hA.of (by rw [p4 1 (by omega), upS_r (by omega), k2, i3]) (by rw [p4 2 (by omega), upS_r (by omega), k3, i4]) (by rw [p3 4 (by omega) (by omega), upS_s (by omega), k4 4 (by omega), i5 4 (by omega)])
      · rw [p3 1 (by omega) (by omega)]; rfl
      · rw [p1 _ (by omega), if_pos rfl, upS_f (by omega), k1 1 (by omega) (by omega), i2]
      · intro q hq hqn
        rw [p1 _ (by omega), if_neg (by omega), upS_f (by omega), k1 _ (by omega) (by omega), i1 _ (by omega) (by omega)]
    · rw [if_neg c2, if_neg c2]
      refine Or.inr ⟨Or.inr rfl, ?_, ⟨?_, ?_, ?_, ?_, ?_⟩, ?_, rfl⟩
      · rw [upS_f (by omega), upC_at, k1 1 (by omega) (by omega), i2]
      · rw [upS_f (by omega), upC_ne (by omega), k1 2 (by omega) (by omega), i1 2 (by omega) (by omega)]
      · intro q hq
        rw [upS_f (by omega), upC_ne (by omega), k1 _ (by omega) (by omega), i1 _ (by omega) (by omega)]
      · rw [upS_s (by omega), upC_ne (by omega), k4 5 (by omega), i5 5 (by omega)]
      · rw [upS_s (by omega), upC_ne (by omega), k4 6 (by omega), i5 6 (by omega)]
      · rw [upS_s (by omega), upC_ne (by omega), k4 7 (by omega), i5 7 (by omega)]
      · exact hA.of (by rw [upS_r (by omega), upC_ne (by omega), k2, i3]) (by rw [upS_r (by omega), upC_ne (by omega), k3, i4]) (by rw [upS_s (by omega), upC_ne (by omega), k4 4 (by omega), i5 4 (by omega)])
  · rw [if_neg c1, if_neg c1]
    refine Or.inr ⟨Or.inl rfl, ?_, ⟨?_, ?_, ?_, ?_, ?_⟩, ?_, rfl⟩
    · rw [upS_f (by omega), upS_f (by omega), ecc.1 0 (by omega)]
    · rw [upS_f (by omega), upS_f (by omega), ecc.1 2 (by omega)]
    · intro q hq
      rw [upS_f (by omega), upS_f (by omega), ecc.1 _ (by omega)]
    · rw [upS_s (by omega), upS_s (by omega), ecc.2.2.2 5 (by omega) (by omega) (by omega)]
    · rw [upS_s (by omega), upS_s (by omega), ecc.2.2.2 6 (by omega) (by omega) (by omega)]
    · rw [upS_s (by omega), upS_s (by omega), ecc.2.2.2 7 (by omega) (by omega) (by omega)]
    · exact hA.of (by rw [upS_r (by omega), upS_r (by omega), ecc.2.1]) (by rw [upS_r (by omega), upS_r (by omega), ecc.2.2.1]) (by rw [upS_s (by omega), upS_s (by omega), ecc.2.2.2 4 (by omega) (by omega) (by omega)])
/-! a text that is put -/
def txS (b : Nat → Int32) (c : CS) (n : Nat) : CS := itr (fun k c => tpS c (b k)) c n
theorem txS_s {b : Nat → Int32} {c : CS} {n : Nat} : txS b c (n + 1) = tpS (txS b c n) (b n) := rfl
theorem tpS_f {c : CS} {n : Nat} {v : Int32} (h1 : c 11 3 1 = nI n) (hn : n < 60) : tpS c v = upS (upA c 1 (upd (c 11 1) n v)) 1 (nI (n + 1)) := by
  unfold tpS
  have e : upA c 1 (upd (c 11 1) (c 11 3 1).toNatClampNeg v) 11 3 1 = nI n := by rw [upA_s (by omega), h1]
  rw [if_pos ⟨by rw [h1]; exact nI_pos (by omega), by rw [h1]; exact nI_ge hn (by decide)⟩, e, h1, nI_clamp (by omega), nI_1]
theorem txS_f {b : Nat → Int32} {c : CS} (h1 : c 11 3 1 = 0) : ∀ n, n ≤ 60 → txS b c n 11 3 1 = nI n ∧ (∀ k, k ≠ 11 → txS b c n k = c k) ∧ txS b c n 11 0 = c 11 0 ∧ txS b c n 11 2 = c 11 2 ∧ (∀ j, j ≠ 1 → txS b c n 11 3 j = c 11 3 j) ∧ (∀ k, k < n → txS b c n 11 1 k = b k) ∧ (sgOk c → (∀ k, k < n → chOk (b k)) → sgOk (txS b c n))
  | 0, _ => ⟨h1, fun _ _ => rfl, rfl, rfl, fun _ _ => rfl, fun _ h => absurd h (Nat.not_lt_zero _), fun h _ => h⟩
  | n + 1, hn => by
    obtain ⟨q1, q2, q3, q4, q5, q6, q7⟩ := txS_f (b := b) h1 n (by omega)
    rw [txS_s, tpS_f q1 (by omega)]
    refine ⟨?_, fun k hk => ?_, ?_, ?_, fun j hj => ?_, fun k hk => ?_, fun h hb => ?_⟩
    · unfold upS
      rw [upC_at]
      exact up2_at
    · rw [upS_f hk, upA_f hk, q2 k hk]
    · rw [upS_r (by omega), upA_r (by omega), q3]
    · rw [upS_r (by omega), upA_r (by omega), q4]
    · rw [upS_s hj, upA_s (by omega), q5 j hj]
    · rw [upS_r (by omega), upA_at]
      by_cases hkn : k = n
      · subst hkn; exact upd_at
      · rw [upd_ne hkn]; exact q6 k (by omega)
    · intro k
      rw [upS_r (by omega), upA_at]
      by_cases hkn : k = n
      · subst hkn; rw [upd_at]; exact hb k (by omega)
      · rw [upd_ne hkn]; exact q7 h (fun k hk => hb k (by omega)) k
/-- a text that is put and carried out -/
theorem read_cases {n nx sz L : Nat} {b : Nat → Int32} {c : CS} (hg : GI n (c 0)) (hn : n + 48 * 61 < 2 ^ 30) (hA : Aux c) (hR : Rg nx sz c) (hL : L ≤ 60) (hb : ∀ k, k < L → chOk (b k)) : (∃ w fl, w < 2 ^ 31 ∧ v_commands (txS b c L) = nI w ∧ Scd nx sz c (s_commands (txS b c L)) fl ∧ GI (n + 48 * 61) fl) ∨ ((v_commands (txS b c L) = -1001 ∨ v_commands (txS b c L) = -1002) ∧ Rfd c (s_commands (txS b c L))) := by
  obtain ⟨q1, q2, q3, q4, q5, q6, q7⟩ := txS_f (b := b) hA.2 L hL
  have hg2 : GI n (txS b c L 0) := by rw [q2 0 (by omega)]; exact hg
  have hA2 : Aux0 (txS b c L) := ⟨q7 hA.1.1 hb, fun k => by rw [q4]; exact hA.1.2.1 k, by rw [q5 4 (by omega)]; exact hA.1.2.2⟩
  have hR2 : Rg nx sz (txS b c L) := ⟨hR.1, hR.2.1, by rw [q5 6 (by omega)]; exact hR.2.2.1, by rw [q5 5 (by omega)]; exact hR.2.2.2⟩
  rcases cmd_cases hg2 hn hA2 hR2 with ⟨w, fl, h1, h2, ⟨s1, s2, s3, s4, s5, s6, s7⟩, h4⟩ | ⟨h1, r1, ⟨r2, r3, r4, r5, r6⟩, r7⟩
  · exact Or.inl ⟨w, fl, h1, h2, ⟨s1, s2.trans (q2 2 (by omega)), s3.trans (q5 7 (by omega)), s4, s5.trans (q2 0 (by omega)), fun j hj hjn => (s6 j hj hjn).trans (q2 _ (by omega)), s7⟩, h4⟩
  · exact Or.inr ⟨h1, r1.trans (q2 0 (by omega)), ⟨r2.trans (q2 2 (by omega)), fun j hj => (r3 j hj).trans (q2 _ (by omega)), r4.trans (q5 5 (by omega)), r5.trans (q5 6 (by omega)), r6.trans (q5 7 (by omega))⟩, r7⟩
