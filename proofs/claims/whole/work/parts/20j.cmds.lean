/-! COMMANDS on both sides -/
def sqO (G : Nat → Int32) (L : Nat) : Nat → Nat → Prop
  | 0, _ => False
  | c + 1, p => (pc G p).1 = true ∧ ((c = 0 ∧ (pc G p).2 = L) ∨ (0 < c ∧ (pc G p).2 < L ∧ G (pc G p).2 = 59 ∧ sqO G L c ((pc G p).2 + 1)))
theorem wl_s {d : Nat} {V : FL} : wlM (d + 1) V = if V 7 9 ≤ V 7 10 then (true, V) else if ¬ nxP V 59 then (false, nxS V 59) else if (icR (nxS V 59)).1 = true then wlM d (icR (nxS V 59)).2 else (false, (icR (nxS V 59)).2) := rfl
theorem cc_s {d k : Nat} {C : CS} : ccL (d + 1) k C = if ¬ rcP C then (-1, rcS C) else if ¬ rcS C 11 3 2 < rcS C 11 3 1 then (nI k, rcS C) else if ¬ rsP (rcS C) 59 then (-1, rsS (rcS C) 59) else ccL d (k + 1) (rsS (rcS C) 59) := rfl
theorem TC.rs {C : CS} {L p : Nat} {g : Nat → Int32} (h : TC C L g p) {v : Int32} (hv : v ≠ 32) : (rsP C v ↔ tG L g p = v) ∧ (tG L g p = v → TC (rsS C v) L g (p + 1)) ∧ (¬ tG L g p = v → rsS C v = C) := by
  refine ⟨by unfold rsP; rw [h.sg], fun q => ?_, fun q => ?_⟩
  · unfold rsS
    rw [h.sg, if_pos q]
    exact h.step (by rw [q]; exact hv)
  · unfold rsS
    rw [h.sg, if_neg q]
/-- the first reading: how many commands there are -/
theorem cc_wl {L : Nat} {g : Nat → Int32} : ∀ (d k p : Nat) (C : CS) (U : FL), d + k = 61 → 1 ≤ k → 2 * k ≤ p + 2 → TC C L g p → TM U L g p →
    ((ccL d k C).1 = -1 ∧ (if (icR U).1 = true then wlM (d + 1) (icR U).2 else (false, (icR U).2)).1 = false ∧ ∃ p', TC (ccL d k C).2 L g p' ∧ TM (if (icR U).1 = true then wlM (d + 1) (icR U).2 else (false, (icR U).2)).2 L g p') ∨
    ∃ c, 1 ≤ c ∧ 2 * c + p ≤ L ∧ (ccL d k C).1 = nI (k - 1 + c) ∧ (if (icR U).1 = true then wlM (d + 1) (icR U).2 else (false, (icR U).2)).1 = true ∧ sqO (tG L g) L c p
  | 0, k, p, C, U, h1, h2, h3, hC, hU => by
    have := hC.2.2.1
    have := hC.2.2.2.1
    omega
  | d + 1, k, p, C, U, h1, h2, h3, hC, hU => by
    obtain ⟨r1, r2, -⟩ := rc_pc hC
    obtain ⟨i1, i2, -⟩ := ic_pc hU
    obtain ⟨l1, l2⟩ := pc_le (G := tG L g) (p := p)
    rw [cc_s, i1]
    generalize (icR U).2 = V at *
    generalize rcS C = D at *
    by_cases hok : (pc (tG L g) p).1 = true
    · rw [if_neg (fun q => q (r1.mpr hok)), if_pos hok, wl_s]
      have hl := l2 hok
      generalize he : (pc (tG L g) p).2 = e at *
      have eL := r2.2.2.1
      have L60 := r2.2.2.2.1
      by_cases heL : e < L
      · have c1 : D 11 3 2 < D 11 3 1 := by rw [r2.1, r2.2.1]; exact nI_lt heL (by omega)
        have c2 : ¬ V 7 9 ≤ V 7 10 := by rw [i2.1, i2.2.1]; exact nI_ge heL (by omega)
        rw [if_neg (fun q => q c1), if_neg c2]
        obtain ⟨s1, s2, s3⟩ := r2.rs (v := 59) (by decide)
        obtain ⟨n1, n2, n3, -⟩ := i2.nx (v := 59) (by decide)
        by_cases h59 : tG L g e = 59
        · rw [if_neg (fun q => q (s1.mpr h59)), if_neg (fun q => q (n1.mpr h59))]
          rcases cc_wl d (k + 1) (e + 1) (rsS D 59) (nxS V 59) (by omega) (by omega) (by omega) (s2 h59) (n2 h59) with ⟨a1, a2, a3⟩ | ⟨c, a1, a2, a3, a4, a5⟩
          · exact Or.inl ⟨a1, a2, a3⟩
          · refine Or.inr ⟨c + 1, by omega, by omega, by rw [a3]; congr 1; omega, a4, hok, ?_⟩
            rw [he]
            exact Or.inr ⟨by omega, heL, h59, a5⟩
        · rw [if_pos (fun q => h59 (s1.mp q)), if_pos (fun q => h59 (n1.mp q)), s3 h59, n3 h59]
          exact Or.inl ⟨rfl, rfl, e, r2, i2⟩
      · have : e = L := by omega
        subst this
        have c1 : ¬ D 11 3 2 < D 11 3 1 := by rw [r2.1, r2.2.1]; exact nI_nlt (Nat.le_refl _) (by omega)
        have c2 : V 7 9 ≤ V 7 10 := by rw [i2.1, i2.2.1]; exact Int32.le_refl _
        rw [if_pos c1, if_pos c2]
        exact Or.inr ⟨1, by omega, by omega, by rw [show k - 1 + 1 = k by omega], rfl, hok, Or.inl ⟨rfl, he⟩⟩
    · rw [if_pos (fun q => hok (r1.mp q)), if_neg hok]
      exact Or.inl ⟨rfl, rfl, _, r2, i2⟩
theorem nv_len {G : Nat → Int32} : ∀ (bs : PT) (p : Nat), (nv G bs p).length = cntN bs
  | [], _ => rfl
  | .inl u :: bs, p => by
    show (nv G bs _).length + 1 = cntN bs + 1
    rw [nv_len bs]
  | .inr v :: bs, p => nv_len bs (p + 1)
theorem kn_of {c : Int32} (h : fmN c ≠ []) : knP c ∧ 1 ≤ cntN (fmN c) ∧ cntN (fmN c) ≤ 3 ∧ (c = 115 → cntN (fmN c) = 3) ∧ (c = 101 → cntN (fmN c) = 2) := by
  have hk : c = 115 ∨ c = 101 ∨ c = 98 ∨ c = 119 ∨ c = 116 ∨ c = 108 ∨ c = 100 := by
    refine Classical.byContradiction fun q => h ?_
    simp only [not_or] at q
    obtain ⟨q1, q2, q3, q4, q5, q6, q7⟩ := q
    unfold fmN
    rw [if_neg q1, if_neg q2, if_neg q3, if_neg q4, if_neg q5, if_neg q6, if_neg q7]
  unfold knP
  rcases hk with rfl | rfl | rfl | rfl | rfl | rfl | rfl
  · rw [show cntN (fmN 115) = 3 by decide]; exact ⟨by decide, by decide, by decide, fun _ => rfl, fun q => absurd q (by decide)⟩
  · rw [show cntN (fmN 101) = 2 by decide]; exact ⟨by decide, by decide, by decide, fun q => absurd q (by decide), fun _ => rfl⟩
  · rw [show cntN (fmN 98) = 1 by decide]; exact ⟨by decide, by decide, by decide, fun q => absurd q (by decide), fun q => absurd q (by decide)⟩
  · rw [show cntN (fmN 119) = 1 by decide]; exact ⟨by decide, by decide, by decide, fun q => absurd q (by decide), fun q => absurd q (by decide)⟩
  · rw [show cntN (fmN 116) = 1 by decide]; exact ⟨by decide, by decide, by decide, fun q => absurd q (by decide), fun q => absurd q (by decide)⟩
  · rw [show cntN (fmN 108) = 1 by decide]; exact ⟨by decide, by decide, by decide, fun q => absurd q (by decide), fun q => absurd q (by decide)⟩
  · rw [show cntN (fmN 100) = 1 by decide]; exact ⟨by decide, by decide, by decide, fun q => absurd q (by decide), fun q => absurd q (by decide)⟩
theorem co_arg {c a b d a' b' d' : Int32} {f : MF} (h1 : a = a') (h2 : c = 101 ∨ c = 115 → b = b') (h3 : c = 115 → d = d') : coM c a b d f = coM c a' b' d' f := by
  subst h1
  unfold coM
  by_cases e1 : c = 98
  · rw [if_pos e1, if_pos e1]
  rw [if_neg e1, if_neg e1]
  by_cases e2 : c = 101
  · rw [if_pos e2, if_pos e2, h2 (Or.inl e2)]
  rw [if_neg e2, if_neg e2]
  by_cases e3 : c = 108
  · rw [if_pos e3, if_pos e3]
  rw [if_neg e3, if_neg e3]
  by_cases e4 : c = 115
  · rw [if_pos e4, if_pos e4, h2 (Or.inr e4), h3 e4]
  rw [if_neg e4, if_neg e4]
/-- what a run of commands keeps -/
def kC (C X : CS) : Prop := (∀ k, k ≠ 0 → k ≠ 11 → X k = C k) ∧ X 11 1 = C 11 1 ∧ X 11 2 = C 11 2 ∧ ∀ j, j = 1 ∨ j = 4 ∨ j = 5 ∨ j = 6 ∨ j = 7 ∨ j = 8 → X 11 3 j = C 11 3 j
def kM (U Y : FL) : Prop := (∀ r, r ≠ 0 → r ≠ 6 → r ≠ 7 → Y r = U r) ∧ ∀ j, j = 3 ∨ j = 5 ∨ j = 7 ∨ j = 9 ∨ j = 13 ∨ j = 19 → Y 7 j = U 7 j
def ReS (X : CS) (Y : FL) : Prop := X 11 3 10 = Y 7 14 ∧ X 11 3 11 = Y 7 15 ∧ X 11 3 12 = Y 7 17
theorem kC.tr {A B C : CS} (h : kC A B) (k : kC B C) : kC A C := ⟨fun i h0 h1 => (k.1 i h0 h1).trans (h.1 i h0 h1), k.2.1.trans h.2.1, k.2.2.1.trans h.2.2.1, fun j hj => (k.2.2.2 j hj).trans (h.2.2.2 j hj)⟩
theorem kM.tr {A B C : FL} (h : kM A B) (k : kM B C) : kM A C := ⟨fun i h0 h1 h2 => (k.1 i h0 h1 h2).trans (h.1 i h0 h1 h2), fun j hj => (k.2 j hj).trans (h.2 j hj)⟩
theorem kC.pse {A B : CS} (h : pSe A B) : kC A B := ⟨fun k _ h11 => h.1 k h11, h.2.1, h.2.2.1, fun j hj => h.2.2.2 j (by omega) (by omega) (by omega)⟩
theorem kM.mse {A B : FL} (h : mSe A B) : kM A B := ⟨fun r _ h6 h7 => h.1 r h6 h7, fun j hj => h.2 j (by omega) (by omega)⟩
theorem cm_s {d k : Nat} {u : CS} : cmL (d + 1) k u = if rvC (cmR (cm1 u k)) = -1 then (false, cm2 u k) else cmL d (k + 1) (cm2 u k) := rfl
theorem me_s {d k : Nat} {u : FL} : meL (d + 1) k u = if bM (meR (me1 u k)) = 0 then ((false, k), me2 u k) else if nxP (me2 u k) 59 then meL d (k + 1) (nxS (me2 u k) 59) else ((true, k + 1), nxS (me2 u k) 59) := rfl
theorem cm2_e {u : CS} {k : Nat} : cm2 u k = rsS (rsC (cm1 u k) (cmR (cm1 u k))) 59 := rfl
theorem me2_e {u : FL} {k : Nat} : me2 u k = rsM (me1 u k) (meR (me1 u k)) := rfl
/-- a command is carried out on both sides -/
theorem cmd1 {L p n k : Nat} {g : Nat → Int32} {C : CS} {U : FL} (hC : TC C L g p) (hU : TM U L g p) (hok : (pc (tG L g) p).1 = true) (hF : FR n (C 0) (U 0)) (hn : n + 48 < 2 ^ 30) :
    TC (cm1 C k) L g (pc (tG L g) p).2 ∧ TM (me1 U k) L g (pc (tG L g) p).2 ∧ kC C (cm1 C k) ∧ kM U (me1 U k) ∧ cm1 C k 11 3 9 = nI k ∧ me1 U k 7 16 = nI k ∧ (cm1 C k 11 3 10 = C 11 3 10 ∧ cm1 C k 11 3 11 = C 11 3 11 ∧ cm1 C k 11 3 12 = C 11 3 12) ∧ (me1 U k 7 14 = U 7 14 ∧ me1 U k 7 15 = U 7 15 ∧ me1 U k 7 17 = U 7 17) ∧ OpR (n + 48) (cmR (cm1 C k)) (meR (me1 U k)) := by
  have hC9 : TC (upS C 9 (nI k)) L g p := hC.of rfl rfl rfl
  obtain ⟨r1, r2, r3⟩ := rc_pc hC9
  obtain ⟨i1, i2, i3⟩ := ic_pc hU
  obtain ⟨r4, r5⟩ := r3 hok
  obtain ⟨i4, i5⟩ := i3 hok
  have hp1 : pSe (upS C 9 (nI k)) (cm1 C k) := pSe_rc
  have hm1 : mSe U (icR U).2 := mSe_ic
  have c0 : cm1 C k 0 = C 0 := hp1.1 0 (by omega)
  have m0 : me1 U k 0 = U 0 := me1_0
  have hne : fmN (tG L g p) ≠ [] := by
    intro q
    unfold pc at hok
    rw [if_pos q] at hok
    cases hok
  obtain ⟨k1, k2, k3, k4, k5⟩ := kn_of hne
  have len : (nvc (tG L g) p).length = cntN (fmN (tG L g p)) := nv_len _ _
  refine ⟨r2, i2.of rfl rfl rfl, kC.tr ⟨fun j _ h11 => upS_f h11, rfl, rfl, fun j hj => upS_s (by omega)⟩ (kC.pse hp1), (kM.mse hm1).tr ⟨fun r _ _ h7 => up2_nk h7, fun j hj => up2_ni (by omega)⟩, hp1.2.2.2 9 (by omega) (by omega) (by omega), rfl, ⟨hp1.2.2.2 10 (by omega) (by omega) (by omega), hp1.2.2.2 11 (by omega) (by omega) (by omega), hp1.2.2.2 12 (by omega) (by omega) (by omega)⟩, ⟨hm1.2 14 (by omega) (by omega), hm1.2 15 (by omega) (by omega), hm1.2 17 (by omega) (by omega)⟩, ?_⟩
  have r4 : cm1 C k 11 3 3 = tG L g p := r4
  have r5 : NuC (cm1 C k) (nvc (tG L g) p) := r5
  have i4 : me1 U k 7 11 = tG L g p := i4
  have i5 : NuM (me1 U k) (nvc (tG L g) p) := i5
  unfold cmR meR
  rw [r4, i4, c0, m0]
  have hv : ∀ j, j < cntN (fmN (tG L g p)) → gN (cm1 C k) (nI j) = me1 U k 6 j := fun j hj => by
    show rget 3 (cm1 C k 11 3 0) (cm1 C k 11 0) (nI j) = _
    rw [r5.1, rget_k (by omega) (by omega) (by decide), r5.2 j (by omega), i5 j (by omega)]
  have ea := co_arg (c := tG L g p) (f := U 0) (a := gN (cm1 C k) 0) (b := gN (cm1 C k) 1) (d := gN (cm1 C k) 2) (a' := me1 U k 6 0) (b' := me1 U k 6 1) (d' := me1 U k 6 2) (hv 0 (by omega)) (fun q => hv 1 (by rcases q with q | q; rw [k5 q]; omega; rw [k4 q]; omega)) (fun q => hv 2 (by rw [k4 q]; omega))
  rw [← ea]
  exact op_co hF hn k1
theorem cm_me {L : Nat} {g : Nat → Int32} : ∀ (c k p n d : Nat) (C : CS) (U : FL), sqO (tG L g) L c p → TC C L g p → TM U L g p → FR n (C 0) (U 0) → n + 48 * c < 2 ^ 30 → c ≤ d → ReS C U →
    kC C (cmL c k C).2 ∧ kM U (meL d k U).2 ∧ ReS (cmL c k C).2 (meL d k U).2 ∧ (((cmL c k C).1 = true ∧ (meL d k U).1 = (true, k + c) ∧ FR (n + 48 * c) ((cmL c k C).2 0) ((meL d k U).2 0)) ∨ ((cmL c k C).1 = false ∧ (meL d k U).1.1 = false))
  | 0, k, p, n, d, C, U, hq, _, _, _, _, _, _ => hq.elim
  | c + 1, k, p, n, 0, C, U, hq, _, _, _, _, hd, _ => absurd hd (by omega)
  | c + 1, k, p, n, d + 1, C, U, hq, hC, hU, hF, hn, hd, hre => by
    obtain ⟨hok, hnext⟩ := hq
    obtain ⟨t1, t2, t3, t4, t5, t6, t7, t8, t9⟩ := cmd1 (k := k) hC hU hok hF (by omega)
    rw [cm_s, me_s, cm2_e, me2_e]
    generalize cm1 C k = A at *
    generalize me1 U k = B at *
    generalize (pc (tG L g) p).2 = e at *
    generalize hX : cmR A = X at *
    generalize hY : meR B = Y at *
    cases X with
    | inl x =>
      cases Y with
      | inl y =>
        obtain ⟨o1, o2, o3⟩ := t9
        rw [if_neg (show ¬ rvC (.inl x) = -1 from o2), if_neg (show ¬ bM (.inl y) = 0 from fun q => absurd (show (1 : Int32) = 0 from q) (by decide))]
        have u1 : TC (upC A 0 x.2) L g e := t1.of rfl rfl rfl
        have u2 : TM (up2 (up1 B 0 y.2) 7 18 y.1) L g e := t2.of rfl rfl rfl
        have w1 : kC A (upC A 0 x.2) := ⟨fun k h0 _ => upC_ne h0, rfl, rfl, fun _ _ => rfl⟩
        have w2 : kM B (up2 (up1 B 0 y.2) 7 18 y.1) := ⟨fun r h0 _ h7 => (up2_nk h7).trans (up1_ne h0), fun j hj => (up2_ni (by omega)).trans rfl⟩
        have w3 : ReS (upC A 0 x.2) (up2 (up1 B 0 y.2) 7 18 y.1) := ⟨t7.1.trans (hre.1.trans t8.1.symm), t7.2.1.trans (hre.2.1.trans t8.2.1.symm), t7.2.2.trans (hre.2.2.trans t8.2.2.symm)⟩
        have w4 : FR (n + 48) (upC A 0 x.2 0) (up2 (up1 B 0 y.2) 7 18 y.1 0) := o3
        have e1 : rsC A (.inl x) = upC A 0 x.2 := rfl
        have e2 : rsM B (.inl y) = up2 (up1 B 0 y.2) 7 18 y.1 := rfl
        rw [e1, e2]
        generalize upC A 0 x.2 = P at *
        generalize up2 (up1 B 0 y.2) 7 18 y.1 = Q at *
        obtain ⟨s1, s2, s3⟩ := u1.rs (v := 59) (by decide)
        obtain ⟨n1, n2, n3, -⟩ := u2.nx (v := 59) (by decide)
        rcases hnext with ⟨z1, z2⟩ | ⟨z1, z2, z3, z4⟩
        · subst z1
          subst z2
          have h59 : ¬ tG e g e = 59 := by
            unfold tG
            rw [if_neg (by omega)]
            decide
          rw [s3 h59, if_neg (fun q => h59 (n1.mp q)), n3 h59]
          exact ⟨t3.tr w1, t4.tr w2, w3, Or.inl ⟨rfl, rfl, w4⟩⟩
        · rw [if_pos (n1.mpr z3)]
          have v1 : pSe P (rsS P 59) := pSe_rs
          have v2 : mSe Q (nxS Q 59) := mSe_nx
          obtain ⟨i1, i2, i3, i4⟩ := cm_me c (k + 1) (e + 1) (n + 48) d (rsS P 59) (nxS Q 59) z4 (s2 z3) (n2 z3) (by rw [v1.1 0 (by omega), v2.1 0 (by omega) (by omega)]; exact w4) (by omega) (by omega) ⟨by rw [v1.2.2.2 10 (by omega) (by omega) (by omega), v2.2 14 (by omega) (by omega)]; exact w3.1, by rw [v1.2.2.2 11 (by omega) (by omega) (by omega), v2.2 15 (by omega) (by omega)]; exact w3.2.1, by rw [v1.2.2.2 12 (by omega) (by omega) (by omega), v2.2 17 (by omega) (by omega)]; exact w3.2.2⟩
          refine ⟨((t3.tr w1).tr (kC.pse v1)).tr i1, ((t4.tr w2).tr (kM.mse v2)).tr i2, i3, ?_⟩
          rw [show k + (c + 1) = k + 1 + c by omega, show n + 48 * (c + 1) = n + 48 + 48 * c by omega]
          exact i4
      | inr y => exact t9.elim
    | inr x =>
      cases Y with
      | inl y => exact t9.elim
      | inr y =>
        cases t9
        rw [if_pos (show rvC (.inr x) = -1 from rfl), if_pos (show bM (.inr x) = 0 from rfl)]
        have e1 : rsC A (.inr x) = rfS A x.1 x.2 := rfl
        have e2 : rsM B (.inr x) = rfM B x.1 x.2 := rfl
        rw [e1, e2]
        have w1 : kC A (rfS A x.1 x.2) := ⟨fun k _ h11 => (upS_f h11).trans ((upS_f h11).trans (upS_f h11)), rfl, rfl, fun j hj => (upS_s (by omega)).trans ((upS_s (by omega)).trans (upS_s (by omega)))⟩
        have w2 : kM B (rfM B x.1 x.2) := ⟨fun r _ _ h7 => (up2_nk h7).trans ((up2_nk h7).trans (up2_nk h7)), fun j hj => (up2_ni (by omega)).trans ((up2_ni (by omega)).trans (up2_ni (by omega)))⟩
        have w3 : ReS (rfS A x.1 x.2) (rfM B x.1 x.2) := ⟨rfl, rfl, t5.trans t6.symm⟩
        generalize rfS A x.1 x.2 = P at *
        have v1 : pSe P (rsS P 59) := pSe_rs
        refine ⟨(t3.tr w1).tr (kC.pse v1), t4.tr w2, ⟨?_, ?_, ?_⟩, Or.inr ⟨rfl, rfl⟩⟩
        · exact (v1.2.2.2 10 (by omega) (by omega) (by omega)).trans w3.1
        · exact (v1.2.2.2 11 (by omega) (by omega) (by omega)).trans w3.2.1
        · exact (v1.2.2.2 12 (by omega) (by omega) (by omega)).trans w3.2.2
theorem wl_mse : ∀ (d : Nat) (V : FL), mSe V (wlM d V).2
  | 0, _ => mSe.rf
  | d + 1, V => by
    rw [wl_s]
    split
    · exact mSe.rf
    · split
      · exact mSe_nx
      · split
        · exact (mSe_nx.tr mSe_ic).tr (wl_mse d _)
        · exact mSe_nx.tr mSe_ic
theorem cp_mse {md : FL} : mSe (cpI md) (cpR md).2 := by
  unfold cpR
  split
  · exact mSe_ic.tr (wl_mse _ _)
  · exact mSe_ic
/-- commands on both sides -/
theorem sim_commands {n : Nat} {cs : CS} {md : FL} (h : Rel n cs md) (hn : n + 1500 < 2 ^ 30) :
    (ccV cs = -1 ∧ Rel (n + 1500) (upS (upS (ccS cs) 8 (ccS cs 11 3 2)) 1 0) (cmE2 md) ∧ cmE2 md 7 19 = 1) ∨
    (¬ ccV cs = -1 ∧ (cmE cs).1 = false ∧ Rel (n + 1500) (upS (upC (cmE cs).2 0 ((cmE cs).2 1)) 1 0) (cmE2 md) ∧ cmE2 md 7 19 = 2) ∨
    (¬ ccV cs = -1 ∧ (cmE cs).1 = true ∧ Rel (n + 1500) (kpS (upS (cmE cs).2 1 0)) (cmE2 md) ∧ cmE2 md 7 19 = 0 ∧ cmV2 md = ccV cs) := by
  obtain ⟨h0, h1, h2, ⟨L, x1, x2, x3, x4, x5, x6⟩, h4, h5⟩ := h
  have hC : TC (upS cs 2 0) L (md 5) 0 := ⟨x2, rfl, by omega, x1, x4⟩
  have hU : TM (cpI md) L (md 5) 0 := ⟨x3, rfl, by omega, x1, fun _ _ => rfl⟩
  have hp : pSe cs (ccS cs) := pSe_cc
  have hm : mSe (cpI md) (cpR md).2 := cp_mse
  have mk : ∀ r, r ≠ 1 → r ≠ 6 → r ≠ 7 → (cpR md).2 r = md r := fun r r1 r6 r7 => by
    rw [hm.1 r r6 r7]
    show up2 (up1 (up2 (up2 md 7 19 0) 7 16 0) 1 (md 0)) 7 10 0 r = _
    rw [up2_nk r7, up1_ne r1, up2_nk r7, up2_nk r7]
  have m7 : ∀ j, j ≠ 10 → j ≠ 11 → j ≠ 16 → j ≠ 19 → (cpR md).2 7 j = md 7 j := fun j j1 j2 j3 j4 => by
    rw [hm.2 j j1 j2]
    show up2 (up1 (up2 (up2 md 7 19 0) 7 16 0) 1 (md 0)) 7 10 0 7 j = _
    rw [up2_ni j1, up1_ne (by omega), up2_ni j3, up2_ni j4]
  have m1 : (cpR md).2 1 = md 0 := hm.1 1 (by omega) (by omega)
  have m19 : (cpR md).2 7 19 = 0 := hm.2 19 (by omega) (by omega)
  rcases cc_wl 60 1 0 (upS cs 2 0) (cpI md) rfl (by omega) (by omega) hC hU with ⟨a1, a2, p', a3, a4⟩ | ⟨c, a1, a2, a3, a4, a5⟩
  · -- a fault
    have ev : ccV cs = -1 := a1
    have eR : (cpR md).1 = false := a2
    have b1 : ccS cs 11 3 2 = nI p' := a3.2.1
    have b2 : (cpR md).2 7 10 = nI p' := a4.2.1
    have eE : cmE2 md = up2 (up2 (up2 (cpR md).2 7 13 ((cpR md).2 7 10)) 7 9 0) 7 19 1 := by
      unfold cmE2
      rw [if_neg (by rw [eR]; decide)]
    refine Or.inl ⟨ev, ?_, by rw [eE]; rfl⟩
    rw [eE]
    generalize ccS cs = X at *
    generalize (cpR md).2 = Y at *
    refine ⟨?_, ?_, ?_, ⟨0, by omega, rfl, rfl, fun k hk => absurd hk (by omega), fun k => ?_, fun k => ?_⟩, ?_, ?_⟩
    · show FR _ (X 0) (Y 0)
      rw [hp.1 0 (by omega), mk 0 (by omega) (by omega) (by omega)]
      exact h0.mono (by omega)
    · exact HiR.mono (n := n) (h1.of (fun k hk => by rw [upS_f (by omega), upS_f (by omega)]; exact hp.1 _ (by omega)) (hp.2.2.2 5 (by omega) (by omega) (by omega)) (hp.2.2.2 6 (by omega) (by omega) (by omega)) (mk 2 (by omega) (by omega) (by omega)) (m7 3 (by omega) (by omega) (by omega) (by omega))) (by omega)
    · exact SaR.mono (n := n) (h2.of (hp.1 2 (by omega)) (hp.2.2.2 7 (by omega) (by omega) (by omega)) (mk 3 (by omega) (by omega) (by omega)) (m7 5 (by omega) (by omega) (by omega) (by omega))) (by omega)
    · show chOk (X 11 1 k)
      rw [hp.2.1]; exact x5 k
    · show chOk (Y 5 k)
      rw [mk 5 (by omega) (by omega) (by omega)]; exact x6 k
    · exact h4.of hp.2.2.1 (hp.2.2.2 4 (by omega) (by omega) (by omega)) (mk 4 (by omega) (by omega) (by omega)) (m7 7 (by omega) (by omega) (by omega) (by omega))
    · refine ⟨?_, ?_, ?_, ?_⟩
      · show X 11 3 2 = Y 7 10
        rw [b1, b2]
      · exact (hp.2.2.2 10 (by omega) (by omega) (by omega)).trans (h5.2.1.trans (m7 14 (by omega) (by omega) (by omega) (by omega)).symm)
      · exact (hp.2.2.2 11 (by omega) (by omega) (by omega)).trans (h5.2.2.1.trans (m7 15 (by omega) (by omega) (by omega) (by omega)).symm)
      · exact (hp.2.2.2 12 (by omega) (by omega) (by omega)).trans (h5.2.2.2.trans (m7 17 (by omega) (by omega) (by omega) (by omega)).symm)
  · -- the commands are carried out
    have ev : ccV cs = nI c := by
      show (ccL 60 1 (upS cs 2 0)).1 = _
      rw [a3]
      congr 1
      omega
    have eR : (cpR md).1 = true := a4
    have nv : ¬ ccV cs = -1 := by rw [ev]; exact nI_n1 (by omega)
    have tI : TC (cmI cs) L (md 5) 0 := by
      refine ⟨?_, rfl, by omega, x1, fun k hk => ?_⟩
      · exact (hp.2.2.2 1 (by omega) (by omega) (by omega)).trans x2
      · rw [cmI_1]; exact x4 k hk
    have tM : TM (meI md) L (md 5) 0 := by
      refine ⟨?_, rfl, by omega, x1, fun k hk => ?_⟩
      · exact (m7 9 (by omega) (by omega) (by omega) (by omega)).trans x3
      · show (cpR md).2 5 k = _
        rw [mk 5 (by omega) (by omega) (by omega)]
    have f0 : FR n (cmI cs 0) (meI md 0) := by
      show FR n (ccS cs 0) ((cpR md).2 0)
      rw [hp.1 0 (by omega), mk 0 (by omega) (by omega) (by omega)]
      exact h0
    have g1 : cmI cs 1 = cs 0 := by
      show ccS cs 0 = _
      exact hp.1 0 (by omega)
    have g2 : meI md 1 = md 0 := m1
    have rs0 : ReS (cmI cs) (meI md) := ⟨(hp.2.2.2 10 (by omega) (by omega) (by omega)).trans (h5.2.1.trans (m7 14 (by omega) (by omega) (by omega) (by omega)).symm), (hp.2.2.2 11 (by omega) (by omega) (by omega)).trans (h5.2.2.1.trans (m7 15 (by omega) (by omega) (by omega) (by omega)).symm), (hp.2.2.2 12 (by omega) (by omega) (by omega)).trans (h5.2.2.2.trans (m7 17 (by omega) (by omega) (by omega) (by omega)).symm)⟩
    -- the start of the second reading beside the state before
    have ks : (∀ k, 2 ≤ k → k < 11 → cmI cs k = cs k) ∧ cmI cs 11 1 = cs 11 1 ∧ cmI cs 11 2 = cs 11 2 ∧ ∀ j, j = 1 ∨ j = 4 ∨ j = 5 ∨ j = 6 ∨ j = 7 → cmI cs 11 3 j = cs 11 3 j := by
      refine ⟨fun k k2 k11 => ?_, cmI_1, hp.2.2.1, fun j hj => ?_⟩
      · show upS (upS (upC (upS (ccS cs) 8 (-1)) 1 (upS (ccS cs) 8 (-1) 0)) 9 0) 2 0 k = _
        rw [upS_f (by omega), upS_f (by omega), upC_ne (by omega), upS_f (by omega)]
        exact hp.1 k (by omega)
      · show upS (upS (upC (upS (ccS cs) 8 (-1)) 1 (upS (ccS cs) 8 (-1) 0)) 9 0) 2 0 11 3 j = _
        rw [upS_s (by omega), upS_s (by omega), upC_ne (by omega), upS_s (by omega)]
        exact hp.2.2.2 j (by omega) (by omega) (by omega)
    have ms : (∀ r, r = 0 ∨ r = 2 ∨ r = 3 ∨ r = 4 ∨ r = 5 → meI md r = md r) ∧ ∀ j, j = 3 ∨ j = 5 ∨ j = 7 ∨ j = 9 → meI md 7 j = md 7 j := by
      refine ⟨fun r hr => ?_, fun j hj => ?_⟩
      · show up2 (up2 (cpR md).2 7 13 (-1)) 7 10 0 r = _
        rw [up2_nk (by omega), up2_nk (by omega)]
        exact mk r (by omega) (by omega) (by omega)
      · show up2 (up2 (cpR md).2 7 13 (-1)) 7 10 0 7 j = _
        rw [up2_ni (by omega), up2_ni (by omega)]
        exact m7 j (by omega) (by omega) (by omega) (by omega)
    have k13 : meI md 7 13 = -1 := rfl
    have k8 : cmI cs 11 3 8 = -1 := rfl
    have k19 : meI md 7 19 = 0 := m19
    have e1 : cmE cs = cmL c 0 (cmI cs) := by
      unfold cmE
      rw [ev, nI_clamp (by omega)]
    obtain ⟨q1, q2, q3, q4⟩ := cm_me c 0 0 n 61 (cmI cs) (meI md) a5 tI tM f0 (by omega) (by omega) rs0
    have e2 : meE md = meL 61 0 (meI md) := rfl
    rw [← e1, ← e2] at q3 q4
    rw [← e1] at q1
    rw [← e2] at q2
    -- what both keep
    have wH : ∀ (P : CS) (Q : FL), (∀ k, 2 ≤ k → k < 11 → P k = (cmE cs).2 k) → (∀ j, j = 5 ∨ j = 6 → P 11 3 j = (cmE cs).2 11 3 j) → Q 2 = (meE md).2 2 → Q 7 3 = (meE md).2 7 3 → HiR n P Q := fun P Q p1 p2 p3 p4 =>
      h1.of (fun k hk => (p1 _ (by omega) (by omega)).trans ((q1.1 _ (by omega) (by omega)).trans (ks.1 _ (by omega) (by omega)))) ((p2 5 (by omega)).trans ((q1.2.2.2 5 (by omega)).trans (ks.2.2.2 5 (by omega)))) ((p2 6 (by omega)).trans ((q1.2.2.2 6 (by omega)).trans (ks.2.2.2 6 (by omega)))) (p3.trans ((q2.1 2 (by omega) (by omega) (by omega)).trans (ms.1 2 (by omega)))) (p4.trans ((q2.2 3 (by omega)).trans (ms.2 3 (by omega))))
    have wS : ∀ (P : CS) (Q : FL), P 2 = (cmE cs).2 2 → P 11 3 7 = (cmE cs).2 11 3 7 → Q 3 = (meE md).2 3 → Q 7 5 = (meE md).2 7 5 → SaR n P Q := fun P Q p1 p2 p3 p4 =>
      h2.of (p1.trans ((q1.1 2 (by omega) (by omega)).trans (ks.1 2 (by omega) (by omega)))) (p2.trans ((q1.2.2.2 7 (by omega)).trans (ks.2.2.2 7 (by omega)))) (p3.trans ((q2.1 3 (by omega) (by omega) (by omega)).trans (ms.1 3 (by omega)))) (p4.trans ((q2.2 5 (by omega)).trans (ms.2 5 (by omega))))
    have wT : ∀ (P : CS) (Q : FL), P 11 1 = (cmE cs).2 11 1 → P 11 3 1 = 0 → Q 5 = (meE md).2 5 → Q 7 9 = 0 → TxR P Q := fun P Q p1 p2 p3 p4 =>
      ⟨0, by omega, p2, p4, fun k hk => absurd hk (by omega), fun k => by rw [p1, q1.2.1, ks.2.1]; exact x5 k, fun k => by rw [p3, q2.1 5 (by omega) (by omega) (by omega), ms.1 5 (by omega)]; exact x6 k⟩
    have wL : ∀ (P : CS) (Q : FL), P 11 2 = (cmE cs).2 11 2 → P 11 3 4 = (cmE cs).2 11 3 4 → Q 4 = (meE md).2 4 → Q 7 7 = (meE md).2 7 7 → LiR P Q := fun P Q p1 p2 p3 p4 =>
      h4.of (p1.trans (q1.2.2.1.trans ks.2.2.1)) (p2.trans ((q1.2.2.2 4 (by omega)).trans (ks.2.2.2 4 (by omega)))) (p3.trans ((q2.1 4 (by omega) (by omega) (by omega)).trans (ms.1 4 (by omega)))) (p4.trans ((q2.2 7 (by omega)).trans (ms.2 7 (by omega))))
    have w8 : (cmE cs).2 11 3 8 = (meE md).2 7 13 := (q1.2.2.2 8 (by omega)).trans (k8.trans (k13.symm.trans (q2.2 13 (by omega)).symm))
    have w19 : (meE md).2 7 19 = 0 := (q2.2 19 (by omega)).trans k19
    have v1 : (cmE cs).2 1 = cs 0 := (q1.1 1 (by omega) (by omega)).trans g1
    have v2 : (meE md).2 1 = md 0 := (q2.1 1 (by omega) (by omega) (by omega)).trans g2
    rcases q4 with ⟨z1, z2, z3⟩ | ⟨z1, z2⟩
    · have eE : cmE2 md = kpM (up2 (meE md).2 7 9 0) := by
        unfold cmE2
        rw [if_pos eR, if_pos (by rw [z2])]
      have eV : cmV2 md = nI c := by
        unfold cmV2
        rw [if_pos eR, if_pos (by rw [z2]), z2, Nat.zero_add]
      refine Or.inr (Or.inr ⟨nv, z1, ?_, ?_, by rw [eV, ev]⟩)
      · rw [eE]
        generalize cmE cs = X at *
        generalize meE md = Y at *
        refine Rel.kept (n := n) (C := upS X.2 1 0) (D := up2 Y.2 7 9 0) (by omega) ?_ ?_ ?_ ?_ ?_ ?_ ?_
        · exact FR.mono (n := n + 48 * c) z3 (by omega)
        · show FR n (X.2 1) (Y.2 1)
          rw [v1, v2]; exact h0
        · exact wH _ _ (fun k _ h11 => upS_f (by omega)) (fun j hj => upS_s (by omega)) rfl rfl
        · exact wS _ _ rfl rfl rfl rfl
        · exact wT _ _ rfl rfl rfl rfl
        · exact wL _ _ rfl rfl rfl rfl
        · exact ⟨w8, q3.1, q3.2.1, q3.2.2⟩
      · rw [eE, km_7 (by omega)]
        exact w19
    · have eE : cmE2 md = up2 (up1 (up2 (meE md).2 7 9 0) 0 ((meE md).2 1)) 7 19 2 := by
        unfold cmE2
        rw [if_pos eR, if_neg (by rw [z2]; decide)]
      refine Or.inr (Or.inl ⟨nv, z1, ?_, by rw [eE]; rfl⟩)
      rw [eE]
      generalize cmE cs = X at *
      generalize meE md = Y at *
      refine ⟨?_, ?_, ?_, ?_, ?_, ?_⟩
      · show FR _ (X.2 1) (Y.2 1)
        rw [v1, v2]; exact h0.mono (by omega)
      · exact HiR.mono (n := n) (wH _ _ (fun k h2 h11 => (upS_f (by omega)).trans (upC_ne (by omega))) (fun j hj => (upS_s (by omega)).trans rfl) rfl rfl) (by omega)
      · exact SaR.mono (n := n) (wS _ _ rfl rfl rfl rfl) (by omega)
      · exact wT _ _ rfl rfl rfl rfl
      · exact wL _ _ rfl rfl rfl rfl
      · exact ⟨w8, q3.1, q3.2.1, q3.2.2⟩
/-- what the reference's contract of commands wants -/
theorem co_G {n : Nat} (hn : n + 48 * 62 < 2 ^ 30) {cs : CS} {md : FL} (h : Rel n cs md) : (fun (k : Nat) (f : MF) => ∃ fl, FR (n + 48 * k) fl f) 0 (md 0) ∧ (∀ k f, k ≤ 61 → (∃ fl, FR (n + 48 * k) fl f) → mOk f ∧ leOk f) ∧ ∀ k f v a b d r f2, k < 61 → (∃ fl, FR (n + 48 * k) fl f) → coM v a b d f = .inl (r, f2) → ∃ fl, FR (n + 48 * (k + 1)) fl f2 := by
  refine ⟨⟨cs 0, h.1⟩, fun k f _ hq => ?_, fun k f v a b d r f2 hk hq he => ?_⟩
  · obtain ⟨fl, ns, np, nh, nc, t, dh, cu, -, hq⟩ := hq
    exact ⟨hq.pmOk, hq.pleOk⟩
  · obtain ⟨fl, hq⟩ := hq
    have hX : ∃ X : OR, OpR (n + 48 * k + 48) X (coM v a b d f) := by
      by_cases hv : v = 98 ∨ v = 100 ∨ v = 101 ∨ v = 108 ∨ v = 115 ∨ v = 116 ∨ v = 119
      · exact ⟨_, op_co hq (by omega) hv⟩
      · simp only [not_or] at hv
        obtain ⟨v1, v2, v3, v4, v5, v6, v7⟩ := hv
        have e : coM v a b d f = drM f a := by
          unfold coM
          rw [if_neg v1, if_neg v3, if_neg v4, if_neg v5, if_neg v6, if_neg v7]
        rw [e]
        exact ⟨_, (op_drink hq a).mono (by omega)⟩
    obtain ⟨X, hX⟩ := hX
    rw [he] at hX
    cases X with
    | inl x => exact ⟨x.2, hX.2.2⟩
    | inr x => exact hX.elim
