/-! THE WHOLE STATE of both: history, snapshot, text, line, reasons -/
theorem FR.ext {n : Nat} {fl : FL} {f g : MF} (h : FR n fl f) (e : ∀ j, j < 81 → g j = f j) : FR n fl g := by
  obtain ⟨ns, np, nh, nc, t, dh, cu, htn, h⟩ := h
  obtain ⟨⟨b1, b2, b3, b4, b5, b6, b7⟩, hz, ⟨m1, m2, m3, m4⟩, ht, hd, hc, h8, h7, hS, hP, hD, hC⟩ := h
  refine ⟨ns, np, nh, nc, t, dh, cu, htn, ⟨b1, b2, b3, b4, b5, b6, b7⟩, hz, ⟨?_, ?_, ?_, ?_⟩, ⟨ht.1, ?_⟩, ⟨hd.1, ?_⟩, ⟨hc.1, ?_⟩, ?_, ?_, ?_, ?_, ?_, ?_⟩
  · rw [e _ (by omega)]; exact m1
  · rw [e _ (by omega)]; exact m2
  · rw [e _ (by omega)]; exact m3
  · rw [e _ (by omega)]; exact m4
  · rw [e _ (by omega)]; exact ht.2
  · rw [e _ (by omega)]; exact hd.2
  · rw [e _ (by omega)]; exact hc.2
  · rw [e _ (by omega)]; exact h8
  · rw [e _ (by omega)]; exact h7
  · exact hS.of (fun k hk => rfl) (fun k hk => e _ (by omega))
  · exact hP.of b2 (fun k hk => ⟨rfl, rfl⟩) (fun j h1 h2 => e j (by omega))
  · exact hD.of b3 rfl (fun j h1 h2 => e j (by omega))
  · exact hC.of (fun k hk => ⟨rfl, rfl, rfl, rfl⟩) (fun j h1 h2 => e j (by omega))
def HiR (n : Nat) (cs : CS) (md : FL) : Prop := ∃ u nx : Nat, u ≤ 8 ∧ nx < 8 ∧ cs 11 3 5 = nI u ∧ md 7 3 = nI u ∧ cs 11 3 6 = nI nx ∧ ∀ j, j < u → FR n (cs (3 + (nx + 8 - u + j) % 8)) (fun i => md 2 (81 * j + i))
def SaR (n : Nat) (cs : CS) (md : FL) : Prop := cs 11 3 7 = md 7 5 ∧ (¬ md 7 5 = 0 → FR n (cs 2) (md 3))
def TxR (cs : CS) (md : FL) : Prop := ∃ L : Nat, L ≤ 60 ∧ cs 11 3 1 = nI L ∧ md 7 9 = nI L ∧ (∀ k, k < L → cs 11 1 k = md 5 k) ∧ sgOk cs ∧ ∀ k, chOk (md 5 k)
def LiR (cs : CS) (md : FL) : Prop := ∃ L : Nat, L ≤ 79 ∧ cs 11 3 4 = nI L ∧ md 7 7 = nI L ∧ (∀ k, k < L → cs 11 2 k = md 4 k) ∧ lsOk cs
def ReR (cs : CS) (md : FL) : Prop := cs 11 3 8 = md 7 13 ∧ cs 11 3 10 = md 7 14 ∧ cs 11 3 11 = md 7 15 ∧ cs 11 3 12 = md 7 17
def Rel (n : Nat) (cs : CS) (md : FL) : Prop := FR n (cs 0) (md 0) ∧ HiR n cs md ∧ SaR n cs md ∧ TxR cs md ∧ LiR cs md ∧ ReR cs md
theorem HiR.mono {n n' : Nat} {cs : CS} {md : FL} (h : HiR n cs md) (hn : n ≤ n') : HiR n' cs md := by
  obtain ⟨u, nx, h1, h2, h3, h4, h5, h6⟩ := h
  exact ⟨u, nx, h1, h2, h3, h4, h5, fun j hj => (h6 j hj).mono hn⟩
theorem SaR.mono {n n' : Nat} {cs : CS} {md : FL} (h : SaR n cs md) (hn : n ≤ n') : SaR n' cs md := ⟨h.1, fun q => (h.2 q).mono hn⟩
theorem Rel.mono {n n' : Nat} {cs : CS} {md : FL} (h : Rel n cs md) (hn : n ≤ n') : Rel n' cs md := ⟨h.1.mono hn, h.2.1.mono hn, h.2.2.1.mono hn, h.2.2.2⟩
theorem HiR.of {n : Nat} {cs cs' : CS} {md md' : FL} (h : HiR n cs md) (e1 : ∀ k, k < 8 → cs' (3 + k) = cs (3 + k)) (e2 : cs' 11 3 5 = cs 11 3 5) (e3 : cs' 11 3 6 = cs 11 3 6) (e4 : md' 2 = md 2) (e5 : md' 7 3 = md 7 3) : HiR n cs' md' := by
  obtain ⟨u, nx, h1, h2, h3, h4, h5, h6⟩ := h
  refine ⟨u, nx, h1, h2, by rw [e2, h3], by rw [e5, h4], by rw [e3, h5], fun j hj => ?_⟩
  rw [e1 _ (Nat.mod_lt _ (by decide)), e4]
  exact h6 j hj
theorem SaR.of {n : Nat} {cs cs' : CS} {md md' : FL} (h : SaR n cs md) (e1 : cs' 2 = cs 2) (e2 : cs' 11 3 7 = cs 11 3 7) (e3 : md' 3 = md 3) (e4 : md' 7 5 = md 7 5) : SaR n cs' md' := by
  refine ⟨by rw [e2, e4]; exact h.1, fun q => ?_⟩
  rw [e1, e3]
  rw [e4] at q
  exact h.2 q
theorem TxR.of {cs cs' : CS} {md md' : FL} (h : TxR cs md) (e1 : cs' 11 1 = cs 11 1) (e2 : cs' 11 3 1 = cs 11 3 1) (e3 : md' 5 = md 5) (e4 : md' 7 9 = md 7 9) : TxR cs' md' := by
  obtain ⟨L, h1, h2, h3, h4, h5, h6⟩ := h
  exact ⟨L, h1, by rw [e2, h2], by rw [e4, h3], fun k hk => by rw [e1, e3]; exact h4 k hk, sgOk_of h5 e1, fun k => by rw [e3]; exact h6 k⟩
theorem LiR.of {cs cs' : CS} {md md' : FL} (h : LiR cs md) (e1 : cs' 11 2 = cs 11 2) (e2 : cs' 11 3 4 = cs 11 3 4) (e3 : md' 4 = md 4) (e4 : md' 7 7 = md 7 7) : LiR cs' md' := by
  obtain ⟨L, h1, h2, h3, h4, h5⟩ := h
  exact ⟨L, h1, by rw [e2, h2], by rw [e4, h3], fun k hk => by rw [e1, e3]; exact h4 k hk, fun k => by rw [e1]; exact h5 k⟩
theorem ReR.of {cs cs' : CS} {md md' : FL} (h : ReR cs md) (e1 : cs' 11 3 8 = cs 11 3 8) (e2 : cs' 11 3 10 = cs 11 3 10) (e3 : cs' 11 3 11 = cs 11 3 11) (e4 : cs' 11 3 12 = cs 11 3 12) (g1 : md' 7 13 = md 7 13) (g2 : md' 7 14 = md 7 14) (g3 : md' 7 15 = md 7 15) (g4 : md' 7 17 = md 7 17) : ReR cs' md' := by
  obtain ⟨h1, h2, h3, h4⟩ := h
  exact ⟨by rw [e1, g1, h1], by rw [e2, g2, h2], by rw [e3, g3, h3], by rw [e4, g4, h4]⟩
/-- an answer that leaves all but 'thrown' as it was -/
theorem Rel.thr {n : Nat} {cs : CS} {md : FL} (h : Rel n cs md) {v : Int32} : Rel n cs (up2 md 7 19 v) :=
  ⟨h.1, h.2.1.of (fun _ _ => rfl) rfl rfl rfl rfl, h.2.2.1.of rfl rfl rfl rfl, h.2.2.2.1.of rfl rfl rfl rfl, h.2.2.2.2.1.of rfl rfl rfl rfl, h.2.2.2.2.2.of rfl rfl rfl rfl rfl rfl rfl rfl⟩
theorem Rel.nx {n : Nat} {cs : CS} {md : FL} (h : Rel n cs md) : nxOk cs := by
  obtain ⟨u, nx, h1, h2, h3, h4, h5, h6⟩ := h.2.1
  unfold nxOk
  rw [h5]
  exact ⟨nI_pos (by omega), nI_ge h2 (by decide)⟩
theorem Rel.un {n : Nat} {cs : CS} {md : FL} (h : Rel n cs md) : unOk md := by
  obtain ⟨u, nx, h1, h2, h3, h4, h5, h6⟩ := h.2.1
  unfold unOk
  rw [h4]
  exact ⟨nI_pos (by omega), nI_le (b := 8) h1 (by decide)⟩
theorem Rel.ok {n : Nat} {cs : CS} {md : FL} (h : Rel n cs md) : mOk (md 0) := by
  obtain ⟨ns, np, nh, nc, t, dh, cu, htn, h⟩ := h.1
  exact h.pmOk
theorem Rel.le {n : Nat} {cs : CS} {md : FL} (h : Rel n cs md) : leOk (md 0) := by
  obtain ⟨ns, np, nh, nc, t, dh, cu, htn, h⟩ := h.1
  exact h.pleOk
/-! what a change keeps -/
theorem kp_0 {C : CS} : kpS C 0 = C 0 := by
  unfold kpS kpB kpA
  rw [upS_f (by omega), upS_f (by omega), upC_ne (by omega)]
theorem kp_f {C : CS} {k nx : Nat} (h6 : C 11 3 6 = nI nx) (hx : nx < 8) (hk : k ≠ 11) : kpS C k = if k = 3 + nx then C 1 else C k := by
  unfold kpS kpB kpA
  rw [upS_f hk, upS_f hk, h6, nI_clamp (by omega)]
  rfl
theorem kpA_11 {C : CS} {nx : Nat} (h6 : C 11 3 6 = nI nx) (hx : nx < 8) : kpA C 11 = C 11 := by
  unfold kpA
  rw [h6, nI_clamp (by omega), upC_ne (by omega)]
theorem kp_6 {C : CS} {nx : Nat} (h6 : C 11 3 6 = nI nx) (hx : nx < 8) : kpS C 11 3 6 = nI ((nx + 1) % 8) := by
  unfold kpS kpB
  rw [upS_s (by omega)]
  show upS _ 6 _ 11 3 6 = _
  unfold upS
  rw [upC_at, up2_at, kpA_11 h6 hx, h6, nI_1]
  by_cases h : 7 ≤ nx
  · rw [if_pos (show (8 : Int32) ≤ nI (nx + 1) from nI_le (a := 8) (by omega) (by omega)), show nx = 7 by omega]
    rfl
  · rw [if_neg (show ¬ (8 : Int32) ≤ nI (nx + 1) from nI_ge (b := 8) (by omega) (by decide)), Nat.mod_eq_of_lt (by omega)]
theorem kp_5 {C : CS} {nx u : Nat} (h6 : C 11 3 6 = nI nx) (hx : nx < 8) (h5 : C 11 3 5 = nI u) (hu : u ≤ 8) : kpS C 11 3 5 = nI (min 8 (u + 1)) := by
  unfold kpS
  show upS _ 5 _ 11 3 5 = _
  unfold upS
  rw [upC_at, up2_at]
  unfold kpB
  rw [upS_s (by omega), kpA_11 h6 hx, h5, nI_1]
  exact minI_n (a := 8) (by decide) (by omega)
theorem kp_s {C : CS} {nx j : Nat} (h6 : C 11 3 6 = nI nx) (hx : nx < 8) (h1 : j ≠ 5) (h2 : j ≠ 6) : kpS C 11 3 j = C 11 3 j := by
  unfold kpS kpB
  rw [upS_s h1, upS_s h2, kpA_11 h6 hx]
theorem kp_r {C : CS} {nx r : Nat} (h6 : C 11 3 6 = nI nx) (hx : nx < 8) (h : r ≠ 3) : kpS C 11 r = C 11 r := by
  unfold kpS kpB
  rw [upS_r h, upS_r h, kpA_11 h6 hx]
theorem pu_k {D : FL} {k : Nat} (h2 : k ≠ 2) (h7 : k ≠ 7) : puK D k = D k := by
  unfold puK
  rw [up2_nk h7, up1_ne h2]
theorem sh_k {D : FL} {k : Nat} (h2 : k ≠ 2) (h7 : k ≠ 7) : shK D k = D k := by
  unfold shK
  rw [up2_nk h7, up1_ne h2]
theorem km_k {D : FL} {k : Nat} (h2 : k ≠ 2) (h7 : k ≠ 7) : kpM D k = D k := by
  unfold kpM
  split
  · rw [pu_k h2 h7, sh_k h2 h7]
  · exact pu_k h2 h7
theorem pu_7 {D : FL} {j : Nat} (h : j ≠ 3) : puK D 7 j = D 7 j := by
  unfold puK
  rw [up2_ni h, up1_ne (by omega)]
theorem sh_7 {D : FL} {j : Nat} (h : j ≠ 3) : shK D 7 j = D 7 j := by
  unfold shK
  rw [up2_ni h, up1_ne (by omega)]
theorem km_7 {D : FL} {j : Nat} (h : j ≠ 3) : kpM D 7 j = D 7 j := by
  unfold kpM
  split
  · rw [pu_7 h, sh_7 h]
  · exact pu_7 h
/-- the history of both when a change is kept -/
theorem HiR.push {n : Nat} {C : CS} {D : FL} (h : HiR n C D) (hb : FR n (C 1) (D 1)) : HiR n (kpS C) (kpM D) := by
  obtain ⟨u, nx, h1, h2, h3, h4, h5, h6⟩ := h
  refine ⟨min 8 (u + 1), (nx + 1) % 8, by omega, by omega, kp_5 h5 h2 h3 h1, ?_, kp_6 h5 h2, ?_⟩
  · unfold kpM
    by_cases hu : u = 8
    · rw [if_pos (show D 7 3 = 8 by rw [h4, hu]; rfl)]
      unfold puK shK
      rw [up2_at, up2_at, h4, hu]
      rfl
    · rw [if_neg (show ¬ D 7 3 = 8 from fun q => hu ((nI_eq (b := 8) (by omega) (by decide)).mp (h4.symm.trans q)))]
      unfold puK
      rw [up2_at, h4, nI_1]
      congr 1
      omega
  · intro j hj
    have hslot : ∀ k, k < 8 → kpS C (3 + k) = if k = nx then C 1 else C (3 + k) := fun k hk => by
      rw [kp_f h5 h2 (by omega)]
      by_cases hkn : k = nx
      · rw [if_pos (by omega), if_pos hkn]
      · rw [if_neg (by omega), if_neg hkn]
    rw [hslot _ (Nat.mod_lt _ (by decide))]
    unfold kpM
    by_cases hu : u = 8
    · rw [if_pos (show D 7 3 = 8 by rw [h4, hu]; rfl)]
      have e3 : shK D 7 3 = nI 7 := by
        unfold shK
        rw [up2_at, h4, hu]
        rfl
      have e1 : shK D 1 = D 1 := sh_k (by omega) (by omega)
      have e2 : puK (shK D) 2 = blk (81 * 7) 81 (D 1) (cpy 567 (fun i => D 2 (81 + i)) (D 2)) := by
        unfold puK
        rw [up2_nk (by omega), up1_at, e3, e1, nI_clamp (by omega)]
        rfl
      rw [e2]
      subst hu
      by_cases hj7 : j = 7
      · subst hj7
        rw [if_pos (by omega)]
        exact hb.ext (fun i hi => by unfold blk; rw [if_pos (by omega), show 81 * 7 + i - 81 * 7 = i by omega])
      · rw [if_neg (by omega), show ((nx + 1) % 8 + 8 - min 8 (8 + 1) + j) % 8 = (nx + 8 - 8 + (j + 1)) % 8 by omega]
        refine (h6 (j + 1) (by omega)).ext (fun i hi => ?_)
        show blk (81 * 7) 81 (D 1) (cpy 567 (fun i => D 2 (81 + i)) (D 2)) (81 * j + i) = D 2 (81 * (j + 1) + i)
        unfold blk cpy
        rw [if_neg (by omega), if_pos (by omega)]
        show D 2 (81 + (81 * j + i)) = _
        rw [show 81 + (81 * j + i) = 81 * (j + 1) + i by omega]
    · rw [if_neg (show ¬ D 7 3 = 8 from fun q => hu ((nI_eq (b := 8) (by omega) (by decide)).mp (h4.symm.trans q)))]
      have e2 : puK D 2 = blk (81 * u) 81 (D 1) (D 2) := by
        unfold puK
        rw [up2_nk (by omega), up1_at, h4, nI_clamp (by omega)]
      rw [e2]
      by_cases hju : j = u
      · subst hju
        rw [if_pos (by omega)]
        exact hb.ext (fun i hi => by unfold blk; rw [if_pos (by omega), show 81 * j + i - 81 * j = i by omega])
      · rw [if_neg (by omega), show ((nx + 1) % 8 + 8 - min 8 (u + 1) + j) % 8 = (nx + 8 - u + j) % 8 by omega]
        refine (h6 j (by omega)).ext (fun i hi => ?_)
        show blk (81 * u) 81 (D 1) (D 2) (81 * j + i) = D 2 (81 * j + i)
        unfold blk
        rw [if_neg (by omega)]
/-- a change that went well -/
theorem Rel.kept {n n' : Nat} {C : CS} {D : FL} (hn : n ≤ n') (h0 : FR n' (C 0) (D 0)) (hb : FR n (C 1) (D 1)) (h1 : HiR n C D) (h2 : SaR n C D) (h3 : TxR C D) (h4 : LiR C D) (h5 : ReR C D) : Rel n' (kpS C) (kpM D) := by
  obtain ⟨u, nx, a1, a2, a3, a4, a5, a6⟩ := id h1
  refine ⟨?_, (h1.push hb).mono hn, (h2.of ?_ (kp_s a5 a2 (by omega) (by omega)) (km_k (by omega) (by omega)) (km_7 (by omega))).mono hn, h3.of (kp_r a5 a2 (by omega)) (kp_s a5 a2 (by omega) (by omega)) (km_k (by omega) (by omega)) (km_7 (by omega)), h4.of (kp_r a5 a2 (by omega)) (kp_s a5 a2 (by omega) (by omega)) (km_k (by omega) (by omega)) (km_7 (by omega)), h5.of (kp_s a5 a2 (by omega) (by omega)) (kp_s a5 a2 (by omega) (by omega)) (kp_s a5 a2 (by omega) (by omega)) (kp_s a5 a2 (by omega) (by omega)) (km_7 (by omega)) (km_7 (by omega)) (km_7 (by omega)) (km_7 (by omega))⟩
  · rw [kp_0, km_k (by omega) (by omega)]
    exact h0
  · rw [kp_f a5 a2 (by omega), if_neg (by omega)]
/-- the reference's answer to a change -/
def EnM (md : FL) (Y : MR) (E : FL) : Prop := E = seE md Y ∨ E = snE md Y
theorem sim_op {n n' : Nat} {cs : CS} {md : FL} (h : Rel n cs md) (hn : n ≤ n') {X : OR} {Y : MR} (hop : OpR n' X Y) {E : FL} (hE : EnM md Y E) :
    (¬ rvC X = -1 ∧ seV Y = rvC X ∧ Rel n' (kpS (rsC (bgS cs) X)) E ∧ E 7 19 = 0) ∨ (rvC X = -1 ∧ Rel n' (rsC (bgS cs) X) E ∧ E 7 19 = 1) := by
  obtain ⟨h0, h1, h2, h3, h4, h5⟩ := h
  cases X with
  | inl q =>
    cases Y with
    | inl r =>
      obtain ⟨q1, q2, q3⟩ := hop
      refine Or.inl ⟨q2, q1.symm, ?_, ?_⟩
      · have key : ∀ D : FL, D 0 = r.2 → D 1 = md 0 → D 2 = md 2 → D 3 = md 3 → D 4 = md 4 → D 5 = md 5 → (∀ j, j ≠ 16 → j ≠ 18 → j ≠ 19 → D 7 j = md 7 j) → Rel n' (kpS (rsC (bgS cs) (.inl q))) (kpM D) := fun D d0 d1 d2 d3 d4 d5 d7 => by
          refine Rel.kept (n := n) (C := upC (bgS cs) 0 q.2) hn ?_ ?_ ?_ ?_ ?_ ?_ ?_
          · rw [d0]; exact q3
          · rw [d1]; exact h0
          · refine h1.of (fun k hk => ?_) rfl rfl d2 (d7 3 (by omega) (by omega) (by omega))
            rw [upC_ne (by omega)]
            unfold bgS
            rw [upS_f (by omega), upC_ne (by omega)]
          · exact h2.of rfl rfl d3 (d7 5 (by omega) (by omega) (by omega))
          · exact h3.of rfl rfl d5 (d7 9 (by omega) (by omega) (by omega))
          · exact h4.of rfl rfl d4 (d7 7 (by omega) (by omega) (by omega))
          · exact h5.of rfl rfl rfl rfl (d7 13 (by omega) (by omega) (by omega)) (d7 14 (by omega) (by omega) (by omega)) (d7 15 (by omega) (by omega) (by omega)) (d7 17 (by omega) (by omega) (by omega))
        rcases hE with rfl | rfl
        · refine key (up2 (up1 (trM md) 0 r.2) 7 18 r.1) rfl rfl rfl rfl rfl rfl (fun j j1 j2 j3 => ?_)
          rw [up2_ni j2, up1_ne (by omega)]
          unfold trM
          rw [up1_ne (by omega), up2_ni j1, up2_ni j3]
        · refine key (up1 (trM md) 0 r.2) rfl rfl rfl rfl rfl rfl (fun j j1 j2 j3 => ?_)
          rw [up1_ne (by omega)]
          unfold trM
          rw [up1_ne (by omega), up2_ni j1, up2_ni j3]
      · rcases hE with rfl | rfl
        · exact (km_7 (D := up2 (up1 (trM md) 0 r.2) 7 18 r.1) (j := 19) (by omega)).trans rfl
        · exact (km_7 (D := up1 (trM md) 0 r.2) (j := 19) (by omega)).trans rfl
    | inr r => exact hop.elim
  | inr q =>
    cases Y with
    | inl r => exact hop.elim
    | inr r =>
      cases hop
      have hE : E = up2 (rfM (trM md) q.1 q.2) 7 19 1 := by rcases hE with rfl | rfl <;> rfl
      subst hE
      refine Or.inr ⟨rfl, ⟨?_, ?_, ?_, ?_, ?_, ?_⟩, rfl⟩
      · exact h0.mono hn
      · refine HiR.mono (n := n) (h1.of (fun k hk => ?_) rfl rfl rfl rfl) hn
        show rfS (bgS cs) q.1 q.2 (3 + k) = _
        unfold rfS
        rw [upS_f (by omega), upS_f (by omega), upS_f (by omega)]
        unfold bgS
        rw [upS_f (by omega), upC_ne (by omega)]
      · exact SaR.mono (n := n) (h2.of rfl rfl rfl rfl) hn
      · exact h3.of rfl rfl rfl rfl
      · exact h4.of rfl rfl rfl rfl
      · exact ⟨h5.1, rfl, rfl, rfl⟩
/-! undo, the snapshot -/
theorem tb_11 {cs : CS} {nx u : Nat} (h6 : cs 11 3 6 = nI nx) (hx : nx < 8) (h5 : cs 11 3 5 = nI u) (hu : u ≤ 8) (h0 : 0 < u) : tbS cs 11 3 5 = nI (u - 1) ∧ tbS cs 11 3 6 = nI ((nx + 7) % 8) ∧ tbS cs 0 = cs (3 + (nx + 7) % 8) := by
  have e6 : tbA cs 11 3 6 = nI ((nx + 7) % 8) := by
    unfold tbA
    show upS cs 6 _ 11 3 6 = _
    unfold upS
    rw [upC_at, up2_at, h6]
    by_cases h : nx = 0
    · subst h
      rfl
    · rw [if_neg (show ¬ nI nx ≤ 0 from nI_nle (by omega) (by omega)), show nI nx - 1 = nI (nx - 1) from nI_sub (b := 1) (by omega)]
      congr 1
      omega
  have e5 : tbB cs 11 3 5 = nI (u - 1) := by
    unfold tbB
    show upS (tbA cs) 5 _ 11 3 5 = _
    unfold upS
    rw [upC_at, up2_at, show tbA cs 11 3 5 = cs 11 3 5 from upS_s (by omega), h5, show nI u - 1 = nI (u - 1) from nI_sub (b := 1) (by omega)]
    exact (maxI_n (a := 0) (by decide) (by omega)).trans (by rw [Nat.max_eq_right (Nat.zero_le _)])
  have e6b : tbB cs 11 3 6 = nI ((nx + 7) % 8) := (upS_s (by omega)).trans e6
  refine ⟨?_, ?_, ?_⟩
  · unfold tbS
    rw [upC_ne (by omega)]
    exact e5
  · unfold tbS
    rw [upC_ne (by omega)]
    exact e6b
  · unfold tbS
    rw [upC_at, e6b, nI_clamp (by omega)]
    unfold tbB tbA
    rw [upS_f (by omega), upS_f (by omega)]
theorem tb_f {cs : CS} {k : Nat} (h0 : k ≠ 0) (h : k ≠ 11) : tbS cs k = cs k := by
  unfold tbS tbB tbA
  rw [upC_ne h0, upS_f h, upS_f h]
theorem tb_s {cs : CS} {j : Nat} (h5 : j ≠ 5) (h6 : j ≠ 6) : tbS cs 11 3 j = cs 11 3 j := by
  unfold tbS tbB tbA
  rw [upC_ne (by omega), upS_s h5, upS_s h6]
theorem tb_r {cs : CS} {r : Nat} (h : r ≠ 3) : tbS cs 11 r = cs 11 r := by
  unfold tbS tbB tbA
  rw [upC_ne (by omega), upS_r h, upS_r h]
theorem sim_undo {n : Nat} {cs : CS} {md : FL} (h : Rel n cs md) : (cs 11 3 5 = 0 ∧ md 7 3 = 0) ∨ (¬ cs 11 3 5 = 0 ∧ ¬ md 7 3 = 0 ∧ tbS cs 11 3 5 = md 7 3 - 1 ∧ Rel n (tbS cs) (unM md)) := by
  obtain ⟨h0, ⟨u, nx, a1, a2, a3, a4, a5, a6⟩, h2, h3, h4, h5⟩ := h
  rcases Nat.eq_zero_or_pos u with hu | hu
  · subst hu
    exact Or.inl ⟨a3, a4⟩
  · obtain ⟨t5, t6, t0⟩ := tb_11 a5 a2 a3 a1 hu
    have n0 : ¬ nI u = 0 := nI_ne0 hu (by omega)
    have e1 : md 7 3 - 1 = nI (u - 1) := by rw [a4]; exact nI_sub (b := 1) (by omega)
    refine Or.inr ⟨by rw [a3]; exact n0, by rw [a4]; exact n0, by rw [t5, e1], ?_, ⟨u - 1, (nx + 7) % 8, by omega, by omega, t5, ?_, t6, fun j hj => ?_⟩, ?_, ?_, ?_, ?_⟩
    · have e2 : unM md 0 = fun i => md 2 (81 * (u - 1) + i) := by
        show (fun i => md 2 (81 * (md 7 3 - 1).toNatClampNeg + i)) = _
        rw [e1, nI_clamp (by omega)]
      rw [t0, e2, show (nx + 7) % 8 = (nx + 8 - u + (u - 1)) % 8 by omega]
      exact a6 (u - 1) (by omega)
    · show md 7 3 - 1 = _
      exact e1
    · rw [tb_f (by omega) (by omega), show ((nx + 7) % 8 + 8 - (u - 1) + j) % 8 = (nx + 8 - u + j) % 8 by omega]
      exact a6 j (by omega)
    · exact h2.of (tb_f (by omega) (by omega)) (tb_s (by omega) (by omega)) rfl rfl
    · exact h3.of (tb_r (by omega)) (tb_s (by omega) (by omega)) rfl rfl
    · exact h4.of (tb_r (by omega)) (tb_s (by omega) (by omega)) rfl rfl
    · exact h5.of (tb_s (by omega) (by omega)) (tb_s (by omega) (by omega)) (tb_s (by omega) (by omega)) (tb_s (by omega) (by omega)) rfl rfl rfl rfl
theorem FR.hour {n : Nat} {fl : FL} {f : MF} (h : FR n fl f) : fl 9 1 = f 0 := by
  obtain ⟨ns, np, nh, nc, t, dh, cu, htn, h⟩ := h
  rw [h.2.2.2.1.1, h.2.2.2.1.2]
theorem sim_save {n : Nat} {cs : CS} {md : FL} (h : Rel n cs md) : cs 0 9 1 = md 0 0 ∧ Rel n (upS (upC cs 2 (cs 0)) 7 1) (up1 (up2 (up2 md 7 19 0) 7 5 1) 3 (md 0)) := by
  obtain ⟨h0, h1, h2, h3, h4, h5⟩ := h
  refine ⟨h0.hour, h0, ?_, ⟨rfl, fun _ => h0⟩, h3.of rfl rfl rfl rfl, h4.of rfl rfl rfl rfl, h5.of rfl rfl rfl rfl rfl rfl rfl rfl⟩
  exact h1.of (fun k hk => by rw [upS_f (by omega), upC_ne (by omega)]) rfl rfl rfl rfl
theorem sim_restore {n : Nat} {cs : CS} {md : FL} (h : Rel n cs md) : (cs 11 3 7 = 0 ∧ md 7 5 = 0) ∨ (¬ cs 11 3 7 = 0 ∧ ¬ md 7 5 = 0 ∧ cs 2 9 1 = md 3 0 ∧ Rel n (upS (upC cs 0 (cs 2)) 5 0) (up2 (up1 (up2 md 7 19 0) 0 (md 3)) 7 3 0)) := by
  obtain ⟨h0, ⟨u, nx, a1, a2, a3, a4, a5, a6⟩, h2, h3, h4, h5⟩ := h
  by_cases hs : md 7 5 = 0
  · exact Or.inl ⟨by rw [h2.1]; exact hs, hs⟩
  · have h6 := h2.2 hs
    refine Or.inr ⟨by rw [h2.1]; exact hs, hs, h6.hour, h6, ⟨0, nx, by omega, a2, rfl, rfl, a5, fun j hj => absurd hj (by omega)⟩, ?_, ?_, ?_, ?_⟩
    · exact h2.of rfl rfl rfl rfl
    · exact h3.of rfl rfl rfl rfl
    · exact h4.of rfl rfl rfl rfl
    · exact h5.of rfl rfl rfl rfl rfl rfl rfl rfl
theorem sim_append {n : Nat} {cs : CS} {md : FL} (h : Rel n cs md) {v : Int32} (hv : chOk v) : (¬ cs 11 3 1 < nI 60 ∧ md 7 9 = 60) ∨ (cs 11 3 1 < nI 60 ∧ ¬ md 7 9 = 60 ∧ tpS cs v 11 3 1 = md 7 9 + 1 ∧ Rel n (tpS cs v) (apM md v)) := by
  obtain ⟨h0, h1, h2, ⟨L, t1, t2, t3, t4, t5, t6⟩, h4, h5⟩ := h
  by_cases hL : L = 60
  · refine Or.inl ⟨?_, by rw [t3, hL]; rfl⟩
    rw [t2, hL]
    exact nI_nlt (Nat.le_refl _) (by decide)
  · have hc : ¬ cs 11 3 1 < 0 ∧ ¬ nI 60 ≤ cs 11 3 1 := by rw [t2]; exact ⟨nI_pos (by omega), nI_ge (by omega) (by decide)⟩
    have e : tpS cs v = upS (upA cs 1 (upd (cs 11 1) L v)) 1 (nI (L + 1)) := by
      unfold tpS
      rw [if_pos hc, upA_s (by omega), t2, nI_clamp (by omega), nI_1]
    have em : apM md v = up1 (up2 (up2 md 7 19 0) 7 9 (nI (L + 1))) 5 (upd (md 5) L v) := by
      unfold apM
      rw [t3, nI_clamp (by omega), nI_1]
    have a1 : upS (upA cs 1 (upd (cs 11 1) L v)) 1 (nI (L + 1)) 11 1 = upd (cs 11 1) L v := by rw [upS_r (by omega), upA_at]
    refine Or.inr ⟨by rw [t2]; exact nI_lt (by omega) (by decide), by rw [t3]; exact fun q => hL ((nI_eq (b := 60) (by omega) (by decide)).mp q), ?_, ?_⟩
    · rw [e, t3, nI_1]
      rfl
    · rw [e, em]
      refine ⟨h0, ?_, h2.of rfl rfl rfl rfl, ⟨L + 1, by omega, rfl, rfl, fun k hk => ?_, fun k => ?_, fun k => ?_⟩, h4.of rfl rfl rfl rfl, h5.of rfl rfl rfl rfl rfl rfl rfl rfl⟩
      · exact h1.of (fun k hk => by rw [upS_f (by omega), upA_f (by omega)]) rfl rfl rfl rfl
      · rw [a1, up1_at]
        by_cases hkL : k = L
        · subst hkL; rw [upd_at, upd_at]
        · rw [upd_ne hkL, upd_ne hkL]; exact t4 k (by omega)
      · rw [a1]
        by_cases hkL : k = L
        · subst hkL; rw [upd_at]; exact hv
        · rw [upd_ne hkL]; exact t5 k
      · rw [up1_at]
        by_cases hkL : k = L
        · subst hkL; rw [upd_at]; exact hv
        · rw [upd_ne hkL]; exact t6 k
