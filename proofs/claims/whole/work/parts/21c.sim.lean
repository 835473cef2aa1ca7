/-! A CALL on both sides: what the class answers beside what the reference answers -/
def WD (g : GC) (x : Nat) (M : HM) (cs : CS) (md : FL) : Prop := ClsAt g M x cs ∧ MdAt g M (x + 196) md ∧ (∃ f, M (x + 204) = some (.inl (gJ g, 1, .inr (.inl f)))) ∧ ∃ f, M (x + 205) = some (.inl (gD g, 1, .inr (.inr (.inr (.inl f)))))
theorem WD.cls {g : GC} {x : Nat} {M : HM} {cs cs' : CS} {md : FL} (h : WD g x M cs md) : WD g x (putC g M x cs') cs' md := by
  obtain ⟨h1, h2, ⟨f, h3⟩, f2, h4⟩ := h
  exact ⟨ClsAt.put, h2.far (fun q a b => putC_out (by omega)), ⟨f, (putC_out (by omega)).trans h3⟩, f2, (putC_out (by omega)).trans h4⟩
theorem WD.mod {g : GC} {x : Nat} {M : HM} {cs : CS} {md md' : FL} (h : WD g x M cs md) : WD g x (putD g M (x + 196) md') cs md' := by
  obtain ⟨h1, h2, ⟨f, h3⟩, f2, h4⟩ := h
  exact ⟨h1.far (fun q a b => putD_out (by omega)), MdAt.put, ⟨f, (putD_out (by omega)).trans h3⟩, f2, (putD_out (by omega)).trans h4⟩
theorem WD.out {g : GC} {x : Nat} {M : HM} {cs : CS} {md : FL} (h : WD g x M cs md) {f : Nat → Int64} : WD g x (upM M (x + 204) (.inl (gJ g, 1, .inr (.inl f)))) cs md := by
  obtain ⟨h1, h2, -, f2, h4⟩ := h
  exact ⟨h1.far (fun q a b => upM_ne (by omega)), h2.far (fun q a b => upM_ne (by omega)), ⟨f, upM_at⟩, f2, (upM_ne (by omega)).trans h4⟩
theorem WD.outD {g : GC} {x : Nat} {M : HM} {cs : CS} {md : FL} (h : WD g x M cs md) {f : Nat → UInt64} : WD g x (upM M (x + 205) (.inl (gD g, 1, .inr (.inr (.inr (.inl f)))))) cs md := by
  obtain ⟨h1, h2, ⟨f3, h3⟩, -⟩ := h
  exact ⟨h1.far (fun q a b => upM_ne (by omega)), h2.far (fun q a b => upM_ne (by omega)), ⟨f3, (upM_ne (by omega)).trans h3⟩, f, upM_at⟩
def xUO : String := "java/lang/UnsupportedOperationException"
/-- the class's answer and the reference's: the same, or thrown by the row that the reference tells -/
def SiI (n : Nat) (g : GC) (x : Nat) (M : HM) (Es : List String) (res : Rs) (b : Int32) (md' : FL) : Prop := ∃ cs', Rel n cs' md' ∧ ((res = .inl (some (.int b), putC g M x cs') ∧ md' 7 19 = 0) ∨ ∃ (k : Nat) (E : String), Es[k]? = some E ∧ k < 2 ∧ res = .inr (E, putC g M x cs') ∧ md' 7 19 = nI (k + 1))
theorem SiI.go {n : Nat} {g : GC} {x : Nat} {M : HM} {cs : CS} {md md' : FL} {Es : List String} {res : Rs} {b : Int32} (h : SiI n g x M Es res b md') (hW : WD g x M cs md) :
    ∃ (M2 : HM) (kk : Int32) (cs' : CS), hOut g (x + 204) Es res (.inl (some (.int kk), M2)) ∧ WD g x M2 cs' md ∧ Rel n cs' md' ∧ md' 7 19 = kk ∧ (kk = 0 → ∃ f, M2 (x + 204) = some (.inl (gJ g, 1, .inr (.inl f))) ∧ f 0 = b.toInt64) := by
  obtain ⟨cs', hR, h⟩ := h
  obtain ⟨-, -, ⟨f, hf⟩, -⟩ := id (hW.cls (cs' := cs'))
  rcases h with ⟨h1, h2⟩ | ⟨k, E, h1, h2, h3, h4⟩
  · exact ⟨_, 0, cs', Or.inl ⟨b, putC g M x cs', f, h1, hf, rfl⟩, hW.cls.out, hR, h2, fun _ => ⟨_, upM_at, by simp [vp_updL]⟩⟩
  · refine ⟨putC g M x cs', nI (k + 1), cs', Or.inr ⟨k, E, _, h1, h3, rfl⟩, hW.cls, hR, h4, fun q => ?_⟩
    exact absurd q (nI_ne0 (by omega) (by omega))
section SI
variable {n : Nat} {g : GC} {x : Nat} {M : HM} {cs : CS} {md : FL}
theorem si_op (h : Rel n cs md) {X : OR} {Y : MR} (hop : OpR (n + 1500) X Y) {E : FL} (hE : EnM md Y E) : SiI (n + 1500) g x M ["java/lang/UnsupportedOperationException"] (if ¬ rvC X = -1 then .inl (some (.int (rvC X)), (putC g M x (kpS (rsC (bgS cs) X)))) else .inr ("java/lang/UnsupportedOperationException", (putC g M x (rsC (bgS cs) X)))) (seV Y) E := by
  rcases sim_op h (Nat.le_add_right n 1500) hop hE with ⟨h1, h2, h3, h4⟩ | ⟨h1, h3, h4⟩
  · exact ⟨_, h3, Or.inl ⟨by rw [if_pos h1, h2], h4⟩⟩
  · exact ⟨_, h3, Or.inr ⟨0, _, rfl, by omega, by rw [if_neg (fun q => q h1)], h4⟩⟩
theorem si_q (h : Rel n cs md) (hW : WD g x M cs md) {Es : List String} {res : Rs} {b t : Int32} (hq : (res = .inl (some (.int b), M) ∧ t = 0) ∨ ∃ (k : Nat) (E : String), Es[k]? = some E ∧ k < 2 ∧ res = .inr (E, M) ∧ t = nI (k + 1)) : SiI (n + 1500) g x M Es res b (up2 md 7 19 t) := by
  refine ⟨cs, h.thr.mono (Nat.le_add_right n 1500), ?_⟩
  rw [putC_same hW.1]
  rcases hq with ⟨h1, h2⟩ | ⟨k, E, h1, h2, h3, h4⟩
  · exact Or.inl ⟨h1, h2⟩
  · exact Or.inr ⟨k, E, h1, h2, h3, h4⟩
theorem si_stakeAt (h : Rel n cs md) (hW : WD g x M cs md) (i : Int32) : SiI (n + 1500) g x M ["java/lang/IndexOutOfBoundsException"] (if rin 10 (cs 0 8 0) i then .inl (some (.int (gS (cs 0) i)), M) else .inr ("java/lang/IndexOutOfBoundsException", M)) (if inB i 0 (md 0 2 - 1) then mS (md 0) i else 0) (up2 md 7 19 (if inB i 0 (md 0 2 - 1) then 0 else 1)) := by
  refine si_q h hW ?_
  obtain ⟨ns, np, nh, nc, t, dh, cu, htn, h⟩ := h.1
  by_cases hi : rin 10 (cs 0 8 0) i
  · obtain ⟨k, hk, rfl⟩ := h.iS.mp hi
    obtain ⟨a, -, e1, e2⟩ := h.pS hk
    exact Or.inl ⟨by rw [if_pos hi, if_pos (h.ijS.mp hi), e1, e2], by rw [if_pos (h.ijS.mp hi)]⟩
  · exact Or.inr ⟨0, _, rfl, by omega, by rw [if_neg hi], by rw [if_neg (fun q => hi (h.ijS.mpr q))]; rfl⟩
theorem si_postOf (h : Rel n cs md) (hW : WD g x M cs md) (i o : Int32) : SiI (n + 1500) g x M ["java/lang/IndexOutOfBoundsException"] (if rin 4 (cs 0 8 1) i then .inl (some (.int (if o = 0 then gP (cs 0) i else gH (cs 0) i)), M) else .inr ("java/lang/IndexOutOfBoundsException", M)) (if inB i 0 (md 0 3 - 1) then (if o = 0 then mP (md 0) i 0 else mP (md 0) i 1) else 0) (up2 md 7 19 (if inB i 0 (md 0 3 - 1) then 0 else 1)) := by
  refine si_q h hW ?_
  obtain ⟨ns, np, nh, nc, t, dh, cu, htn, h⟩ := h.1
  by_cases hi : rin 4 (cs 0 8 1) i
  · obtain ⟨k, hk, rfl⟩ := h.iP.mp hi
    obtain ⟨a, z, -, -, -, e1, e2, e3, e4⟩ := h.pP hk
    exact Or.inl ⟨by rw [if_pos hi, if_pos (h.ijP.mp hi), e1, e2, e3, e4], by rw [if_pos (h.ijP.mp hi)]⟩
  · exact Or.inr ⟨0, _, rfl, by omega, by rw [if_neg hi], by rw [if_neg (fun q => hi (h.ijP.mpr q))]; rfl⟩
theorem cmv_eq {ns np nh nc t dh cu : Nat} {fl : FL} {f : MF} (h : FP ns np nh nc t dh cu fl f) {k : Nat} (hk : k < nc) {w : Int32} (hw : cmOk w) : cmV fl (nI k) w = (if w = 0 ∨ w = 1 ∨ w = 2 then mC f (nI k) w else if w = 3 then (if lostM f (nI k) then 1 else 0) else if w = 4 then mC f (nI k) 3 else 0) := by
  obtain ⟨a, u, -, -, e1, e2, e3, e4, e5, e6⟩ := h.pC hk
  have el : (if lostP fl (nI k) then (1 : Int32) else 0) = if lostM f (nI k) then 1 else 0 := by
    by_cases hl : lostP fl (nI k)
    · rw [if_pos hl, if_pos ((h.lost hk).mp hl)]
    · rw [if_neg hl, if_neg (fun q => hl ((h.lost hk).mpr q))]
  unfold cmV
  rw [el]
  rcases hw with rfl | rfl | rfl | rfl | rfl
  · rw [if_pos rfl, if_pos (Or.inl rfl), e1, e2]
  · rw [if_neg (by decide), if_pos rfl, if_pos (Or.inr (Or.inl rfl)), e3, e4]
  · rw [if_neg (by decide), if_neg (by decide), if_pos rfl, if_pos (Or.inr (Or.inr rfl)), e5]
  · rw [if_neg (by decide), if_neg (by decide), if_neg (by decide), if_pos rfl, if_neg (c := (3 : Int32) = 0 ∨ (3 : Int32) = 1 ∨ (3 : Int32) = 2) (by decide), if_pos rfl]
  · rw [if_neg (by decide), if_neg (by decide), if_neg (by decide), if_neg (by decide), if_neg (c := (4 : Int32) = 0 ∨ (4 : Int32) = 1 ∨ (4 : Int32) = 2) (by decide), if_neg (by decide), if_pos rfl, e6]
theorem si_camelOf (h : Rel n cs md) (hW : WD g x M cs md) (i w : Int32) : SiI (n + 1500) g x M ["java/lang/IndexOutOfBoundsException", "java/lang/IllegalArgumentException"] (if rin 6 (cs 0 8 4) i then if cmOk w then .inl (some (.int (cmV (cs 0) i w)), M) else .inr ("java/lang/IllegalArgumentException", M) else .inr ("java/lang/IndexOutOfBoundsException", M)) (if inB i 0 (md 0 5 - 1) then (if w = 0 ∨ w = 1 ∨ w = 2 then mC (md 0) i w else if w = 3 then (if lostM (md 0) i then 1 else 0) else if w = 4 then mC (md 0) i 3 else 0) else 0) (up2 md 7 19 (if inB i 0 (md 0 5 - 1) then (if w = 0 ∨ w = 1 ∨ w = 2 ∨ w = 3 ∨ w = 4 then 0 else 2) else 1)) := by
  refine si_q h hW ?_
  obtain ⟨ns, np, nh, nc, t, dh, cu, htn, h⟩ := h.1
  by_cases hi : rin 6 (cs 0 8 4) i
  · have hj := h.ijC.mp hi
    obtain ⟨k, hk, rfl⟩ := h.iC.mp hi
    by_cases hw : cmOk w
    · exact Or.inl ⟨by rw [if_pos hi, if_pos hw, if_pos hj, cmv_eq h hk hw], by rw [if_pos hj, if_pos hw]⟩
    · exact Or.inr ⟨1, _, rfl, by omega, by rw [if_pos hi, if_neg hw], by rw [if_pos hj, if_neg hw]; rfl⟩
  · exact Or.inr ⟨0, _, rfl, by omega, by rw [if_neg hi], by rw [if_neg (fun q => hi (h.ijC.mpr q))]; rfl⟩
theorem si_drawnAt (h : Rel n cs md) (hW : WD g x M cs md) (i j : Int32) : SiI (n + 1500) g x M ["java/lang/IndexOutOfBoundsException", "java/util/NoSuchElementException"] (if rin 10 (cs 0 8 0) i then if hasSh (cs 0) j then if ¬ drawnF (cs 0) i j = -1 then .inl (some (.int (drawnF (cs 0) i j)), M) else .inr ("java/util/NoSuchElementException", M) else .inr ("java/lang/IndexOutOfBoundsException", M) else .inr ("java/lang/IndexOutOfBoundsException", M)) (if inB i 0 (md 0 2 - 1) ∧ inB j 0 (md 0 4 - 1) then (if 0 ≤ mD (md 0) i j then mD (md 0) i j else 0) else 0) (up2 md 7 19 (if inB i 0 (md 0 2 - 1) ∧ inB j 0 (md 0 4 - 1) then (if 0 ≤ mD (md 0) i j then 0 else 2) else 1)) := by
  refine si_q h hW ?_
  obtain ⟨ns, np, nh, nc, t, dh, cu, htn, h⟩ := h.1
  by_cases hi : rin 10 (cs 0 8 0) i
  · by_cases hj : hasSh (cs 0) j
    · have hij : inB i 0 (md 0 2 - 1) ∧ inB j 0 (md 0 4 - 1) := ⟨h.ijS.mp hi, h.ijH.mp hj⟩
      rw [if_pos hi, if_pos hj, if_pos hij, if_pos hij]
      obtain ⟨k, hk, rfl⟩ := h.iS.mp hi
      obtain ⟨q, hq, rfl⟩ := h.iH.mp hj
      obtain ⟨a, ha, e1, e2⟩ := h.pD hk hq
      obtain ⟨q1, q2, q3⟩ := m1_iff ha
      rw [e1, e2]
      by_cases h0 : a = 0
      · exact Or.inr ⟨1, _, rfl, by omega, by rw [if_neg (fun q9 => q9 (q1.mpr h0))], by rw [if_neg (fun q9 => q2.mp q9 h0)]; rfl⟩
      · exact Or.inl ⟨by rw [if_pos (fun q9 => h0 (q1.mp q9)), if_pos (q2.mpr h0)], by rw [if_pos (q2.mpr h0)]⟩
    · exact Or.inr ⟨0, _, rfl, by omega, by rw [if_pos hi, if_neg hj], by rw [if_neg (fun q => hj (h.ijH.mpr q.2))]; rfl⟩
  · exact Or.inr ⟨0, _, rfl, by omega, by rw [if_neg hi], by rw [if_neg (fun q => hi (h.ijS.mpr q.1))]; rfl⟩
theorem si_wrongBy (h : Rel n cs md) (hW : WD g x M cs md) (i : Int32) : SiI (n + 1500) g x M ["java/lang/IndexOutOfBoundsException"] (if hasSh (cs 0) i then .inl (some (.int (wbF (cs 0) i)), M) else .inr ("java/lang/IndexOutOfBoundsException", M)) (if inB i 0 (md 0 4 - 1) then itr (wbM (md 0) i) 0 (md 0 2).toNatClampNeg else 0) (up2 md 7 19 (if inB i 0 (md 0 4 - 1) then 0 else 1)) := by
  refine si_q h hW ?_
  obtain ⟨ns, np, nh, nc, t, dh, cu, htn, h⟩ := h.1
  by_cases hi : hasSh (cs 0) i
  · have hj := h.ijH.mp hi
    obtain ⟨k, hk, rfl⟩ := h.iH.mp hi
    exact Or.inl ⟨by rw [if_pos hi, if_pos hj, h.wrong hk], by rw [if_pos hj]⟩
  · exact Or.inr ⟨0, _, rfl, by omega, by rw [if_neg hi], by rw [if_neg (fun q => hi (h.ijH.mpr q))]; rfl⟩
/-- a question of a stake and a post -/
theorem si_two (h : Rel n cs md) (hW : WD g x M cs md) (i j : Int32) {F : FL → Int32 → Int32 → Int32} {G : MF → Int32 → Int32 → Int32} (hFG : ∀ (ns np nh nc t dh cu : Nat), FP ns np nh nc t dh cu (cs 0) (md 0) → ∀ k q, k < ns → q < np → F (cs 0) (nI k) (nI q) = G (md 0) (nI k) (nI q)) : SiI (n + 1500) g x M ["java/lang/IndexOutOfBoundsException"] (if rin 10 (cs 0 8 0) i then if rin 4 (cs 0 8 1) j then .inl (some (.int (F (cs 0) i j)), M) else .inr ("java/lang/IndexOutOfBoundsException", M) else .inr ("java/lang/IndexOutOfBoundsException", M)) (if inB i 0 (md 0 2 - 1) ∧ inB j 0 (md 0 3 - 1) then G (md 0) i j else 0) (up2 md 7 19 (if inB i 0 (md 0 2 - 1) ∧ inB j 0 (md 0 3 - 1) then 0 else 1)) := by
  refine si_q h hW ?_
  obtain ⟨ns, np, nh, nc, t, dh, cu, htn, h⟩ := h.1
  by_cases hi : rin 10 (cs 0 8 0) i
  · by_cases hj : rin 4 (cs 0 8 1) j
    · have hij : inB i 0 (md 0 2 - 1) ∧ inB j 0 (md 0 3 - 1) := ⟨h.ijS.mp hi, h.ijP.mp hj⟩
      rw [if_pos hi, if_pos hj, if_pos hij, if_pos hij]
      obtain ⟨k, hk, rfl⟩ := h.iS.mp hi
      obtain ⟨q, hq, rfl⟩ := h.iP.mp hj
      exact Or.inl ⟨by rw [hFG _ _ _ _ _ _ _ h k q hk hq], rfl⟩
    · exact Or.inr ⟨0, _, rfl, by omega, by rw [if_pos hi, if_neg hj], by rw [if_neg (fun q => hj (h.ijP.mpr q.2))]; rfl⟩
  · exact Or.inr ⟨0, _, rfl, by omega, by rw [if_neg hi], by rw [if_neg (fun q => hi (h.ijS.mpr q.1))]; rfl⟩
theorem si_seems (h : Rel n cs md) (hW : WD g x M cs md) (i j : Int32) : SiI (n + 1500) g x M ["java/lang/IndexOutOfBoundsException"] (if rin 10 (cs 0 8 0) i then if rin 4 (cs 0 8 1) j then .inl (some (.int (seemF (cs 0) i j)), M) else .inr ("java/lang/IndexOutOfBoundsException", M) else .inr ("java/lang/IndexOutOfBoundsException", M)) (if inB i 0 (md 0 2 - 1) ∧ inB j 0 (md 0 3 - 1) then seM (md 0) i j else 0) (up2 md 7 19 (if inB i 0 (md 0 2 - 1) ∧ inB j 0 (md 0 3 - 1) then 0 else 1)) :=
  si_two (F := seemF) (G := seM) h hW i j (fun _ _ _ _ _ _ _ h k q hk hq => h.seem hk hq)
theorem si_seemsAgain (h : Rel n cs md) (hW : WD g x M cs md) (i j : Int32) : SiI (n + 1500) g x M ["java/lang/IndexOutOfBoundsException"] (if rin 10 (cs 0 8 0) i then if rin 4 (cs 0 8 1) j then .inl (some (.int (walkF (cs 0) i j)), M) else .inr ("java/lang/IndexOutOfBoundsException", M) else .inr ("java/lang/IndexOutOfBoundsException", M)) (if inB i 0 (md 0 2 - 1) ∧ inB j 0 (md 0 3 - 1) then seM (md 0) i j else 0) (up2 md 7 19 (if inB i 0 (md 0 2 - 1) ∧ inB j 0 (md 0 3 - 1) then 0 else 1)) :=
  si_two (F := walkF) (G := seM) h hW i j (fun _ _ _ _ _ _ _ h k q hk hq => (h.walk hk hq).trans (h.seem hk hq))
theorem si_shimmers (h : Rel n cs md) (hW : WD g x M cs md) (i j : Int32) : SiI (n + 1500) g x M ["java/lang/IndexOutOfBoundsException"] (if rin 10 (cs 0 8 0) i then if rin 4 (cs 0 8 1) j then .inl (some (.int (bI (shimF (cs 0) i j (hNow (cs 0))))), M) else .inr ("java/lang/IndexOutOfBoundsException", M) else .inr ("java/lang/IndexOutOfBoundsException", M)) (bI ((inB i 0 (md 0 2 - 1) ∧ inB j 0 (md 0 3 - 1)) ∧ shM (md 0) i j (mHb (md 0) 0))) (up2 md 7 19 (if inB i 0 (md 0 2 - 1) ∧ inB j 0 (md 0 3 - 1) then 0 else 1)) := by
  refine si_q h hW ?_
  obtain ⟨ns, np, nh, nc, t, dh, cu, htn, h⟩ := h.1
  by_cases hi : rin 10 (cs 0 8 0) i
  · by_cases hj : rin 4 (cs 0 8 1) j
    · have hij : inB i 0 (md 0 2 - 1) ∧ inB j 0 (md 0 3 - 1) := ⟨h.ijS.mp hi, h.ijP.mp hj⟩
      rw [if_pos hi, if_pos hj, if_pos hij]
      refine Or.inl ⟨?_, rfl⟩
      have e : (shimF (cs 0) i j (hNow (cs 0))) ↔ ((inB i 0 (md 0 2 - 1) ∧ inB j 0 (md 0 3 - 1)) ∧ shM (md 0) i j (mHb (md 0) 0)) := by
        obtain ⟨k, hk, rfl⟩ := h.iS.mp hi
        obtain ⟨q, hq, rfl⟩ := h.iP.mp hj
        rw [h.heat, h.heatM0, h.shim hk hq]
        exact ⟨fun q => ⟨hij, q⟩, fun q => q.2⟩
      by_cases hs : shimF (cs 0) i j (hNow (cs 0))
      · rw [bI_t hs, bI_t (e.mp hs)]
      · rw [bI_f hs, bI_f (fun q => hs (e.mpr q))]
    · exact Or.inr ⟨0, _, rfl, by omega, by rw [if_pos hi, if_neg hj], by rw [if_neg (fun q => hj (h.ijP.mpr q.2))]; rfl⟩
  · exact Or.inr ⟨0, _, rfl, by omega, by rw [if_neg hi], by rw [if_neg (fun q => hi (h.ijS.mpr q.1))]; rfl⟩
theorem si_bestPost (h : Rel n cs md) (hW : WD g x M cs md) (i : Int32) : SiI (n + 1500) g x M ["java/lang/IndexOutOfBoundsException", "java/util/NoSuchElementException"] (if rin 10 (cs 0 8 0) i then if ¬ bestF (cs 0) i = -1 then .inl (some (.int (bestF (cs 0) i)), M) else .inr ("java/util/NoSuchElementException", M) else .inr ("java/lang/IndexOutOfBoundsException", M)) (if inB i 0 (md 0 2 - 1) then (if 0 ≤ (itr (bpM (md 0) i) (-1, 0) (md 0 3).toNatClampNeg).1 then (itr (bpM (md 0) i) (-1, 0) (md 0 3).toNatClampNeg).1 else 0) else 0) (up2 md 7 19 (if inB i 0 (md 0 2 - 1) then (if 0 ≤ (itr (bpM (md 0) i) (-1, 0) (md 0 3).toNatClampNeg).1 then 0 else 2) else 1)) := by
  refine si_q h hW ?_
  obtain ⟨ns, np, nh, nc, t, dh, cu, htn, h⟩ := h.1
  by_cases hi : rin 10 (cs 0 8 0) i
  · have hj := h.ijS.mp hi
    rw [if_pos hi, if_pos hj, if_pos hj]
    obtain ⟨k, hk, rfl⟩ := h.iS.mp hi
    obtain ⟨e1, e2⟩ := h.best hk
    have b2 := h.1.2.1
    rw [← e1]
    rcases e2 with e2 | ⟨j, j1, j2⟩
    · rw [e2]
      exact Or.inr ⟨1, _, rfl, by omega, by rw [if_neg (fun q => q rfl)], by rw [if_neg (by decide)]; rfl⟩
    · rw [j2]
      exact Or.inl ⟨by rw [if_pos (nI_n1 (by omega)), if_pos (nI_pos' (by omega))], by rw [if_pos (nI_pos' (by omega))]⟩
  · exact Or.inr ⟨0, _, rfl, by omega, by rw [if_neg hi], by rw [if_neg (fun q => hi (h.ijS.mpr q))]; rfl⟩
theorem si_clearIn (h : Rel n cs md) (hW : WD g x M cs md) (i j : Int32) : SiI (n + 1500) g x M ["java/lang/IndexOutOfBoundsException", "java/util/NoSuchElementException"] (if rin 10 (cs 0 8 0) i then if rin 4 (cs 0 8 1) j then if ¬ clearF (cs 0) i j = -1 then .inl (some (.int (clearF (cs 0) i j)), M) else .inr ("java/util/NoSuchElementException", M) else .inr ("java/lang/IndexOutOfBoundsException", M) else .inr ("java/lang/IndexOutOfBoundsException", M)) (if inB i 0 (md 0 2 - 1) ∧ inB j 0 (md 0 3 - 1) then (if fnd (fun k => decide (¬ shM (md 0) i j (mHb (md 0) (nI k)))) 24 0 = -1 then 0 else fnd (fun k => decide (¬ shM (md 0) i j (mHb (md 0) (nI k)))) 24 0) else 0) (up2 md 7 19 (if inB i 0 (md 0 2 - 1) ∧ inB j 0 (md 0 3 - 1) then (if fnd (fun k => decide (¬ shM (md 0) i j (mHb (md 0) (nI k)))) 24 0 = -1 then 2 else 0) else 1)) := by
  refine si_q h hW ?_
  obtain ⟨ns, np, nh, nc, t, dh, cu, htn, h⟩ := h.1
  by_cases hi : rin 10 (cs 0 8 0) i
  · by_cases hj : rin 4 (cs 0 8 1) j
    · have hij : inB i 0 (md 0 2 - 1) ∧ inB j 0 (md 0 3 - 1) := ⟨h.ijS.mp hi, h.ijP.mp hj⟩
      rw [if_pos hi, if_pos hj, if_pos hij, if_pos hij]
      obtain ⟨k, hk, rfl⟩ := h.iS.mp hi
      obtain ⟨q, hq, rfl⟩ := h.iP.mp hj
      rw [← h.clear hk hq]
      by_cases h0 : clearF (cs 0) (nI k) (nI q) = -1
      · exact Or.inr ⟨1, _, rfl, by omega, by rw [if_neg (fun q9 => q9 h0)], by rw [if_pos h0]; rfl⟩
      · exact Or.inl ⟨by rw [if_pos h0, if_neg h0], by rw [if_neg h0]⟩
    · exact Or.inr ⟨0, _, rfl, by omega, by rw [if_pos hi, if_neg hj], by rw [if_neg (fun q => hj (h.ijP.mpr q.2))]; rfl⟩
  · exact Or.inr ⟨0, _, rfl, by omega, by rw [if_neg hi], by rw [if_neg (fun q => hi (h.ijS.mpr q.1))]; rfl⟩
theorem si_heatIn (h : Rel n cs md) (hW : WD g x M cs md) (i : Int32) : SiI (n + 1500) g x M ["java/lang/IllegalArgumentException"] (if ¬ i < 0 ∧ i < 48 then .inl (some (.int (heatI (cs 0 9 2) (cs 0 9 1 + i))), M) else .inr ("java/lang/IllegalArgumentException", M)) (if inB i 0 47 then mHb (md 0) i else 0) (up2 md 7 19 (if inB i 0 47 then 0 else 1)) := by
  refine si_q h hW ?_
  obtain ⟨ns, np, nh, nc, t, dh, cu, htn, h⟩ := h.1
  have he : (¬ i < 0 ∧ i < 48) ↔ inB i 0 47 := by
    unfold inB
    rw [Int32.lt_iff_toInt_lt, Int32.lt_iff_toInt_lt, Int32.lt_iff_toInt_lt, show (48 : Int32).toInt = 48 from rfl, show (47 : Int32).toInt = 47 from rfl]
    omega
  by_cases hi : ¬ i < 0 ∧ i < 48
  · have hj := he.mp hi
    rw [if_pos hi, if_pos hj, if_pos hj]
    obtain ⟨k, hk, rfl⟩ := (inB_iff2 (n := 47) (by decide)).mp hj
    exact Or.inl ⟨by rw [h.heatK (by omega), h.heatM (by omega)], rfl⟩
  · exact Or.inr ⟨0, _, rfl, by omega, by rw [if_neg hi], by rw [if_neg (fun q => hi (he.mpr q))]; rfl⟩
theorem si_lostIn (h : Rel n cs md) (hW : WD g x M cs md) (i : Int32) : SiI (n + 1500) g x M ["java/lang/IndexOutOfBoundsException", "java/util/NoSuchElementException"] (if rin 6 (cs 0 8 4) i then if ¬ lostF (cs 0) i = -1 then .inl (some (.int (lostF (cs 0) i)), M) else .inr ("java/util/NoSuchElementException", M) else .inr ("java/lang/IndexOutOfBoundsException", M)) (if inB i 0 (md 0 5 - 1) then (if 20 ≤ (liM (md 0) 48 0 (mC (md 0) i 1)).1 then (liM (md 0) 48 0 (mC (md 0) i 1)).2 else 0) else 0) (up2 md 7 19 (if inB i 0 (md 0 5 - 1) then (if 20 ≤ (liM (md 0) 48 0 (mC (md 0) i 1)).1 then 0 else 2) else 1)) := by
  refine si_q h hW ?_
  obtain ⟨ns, np, nh, nc, t, dh, cu, htn, h⟩ := h.1
  by_cases hi : rin 6 (cs 0 8 4) i
  · have hj := h.ijC.mp hi
    rw [if_pos hi, if_pos hj, if_pos hj]
    obtain ⟨k, hk, rfl⟩ := h.iC.mp hi
    obtain ⟨tm, h', r1, r2, r3, r4⟩ := h.lostI hk
    rw [r3, r4]
    have hle : (20 : Int32) ≤ nI tm ↔ 20 ≤ tm := nI_leI (a := 20) (by decide) (by omega)
    by_cases hq : 20 ≤ tm
    · rw [if_pos hq, if_pos (hle.mpr hq), if_pos (hle.mpr hq)]
      exact Or.inl ⟨by rw [if_pos (nI_n1 (by omega))], rfl⟩
    · rw [if_neg hq, if_neg (fun q => hq (hle.mp q)), if_neg (fun q => hq (hle.mp q))]
      exact Or.inr ⟨1, _, rfl, by omega, by rw [if_neg (fun q => q rfl)], rfl⟩
  · exact Or.inr ⟨0, _, rfl, by omega, by rw [if_neg hi], by rw [if_neg (fun q => hi (h.ijC.mpr q))]; rfl⟩
theorem si_nearest (h : Rel n cs md) (hW : WD g x M cs md) (i : Int32) : SiI (n + 1500) g x M ["java/lang/IllegalArgumentException", "java/util/NoSuchElementException"] (if isPl i then if ¬ ncF (cs 0) i = -1 then .inl (some (.int (ncF (cs 0) i)), M) else .inr ("java/util/NoSuchElementException", M) else .inr ("java/lang/IllegalArgumentException", M)) (if inB i 0 99 then (if md 0 5 = 0 then 0 else itr (naS (md 0) i) 0 ((md 0 5).toNatClampNeg - 1)) else 0) (up2 md 7 19 (if inB i 0 99 then (if md 0 5 = 0 then 2 else 0) else 1)) := by
  refine si_q h hW ?_
  obtain ⟨ns, np, nh, nc, t, dh, cu, htn, h⟩ := h.1
  by_cases hi : isPl i
  · have hj := isPl_iff.mp hi
    rw [if_pos hi, if_pos hj, if_pos hj]
    obtain ⟨a, ha, rfl⟩ := pl_of hi
    have m4 : md 0 5 = nI nc := h.2.2.1.2.2.2
    have b4 := h.1.2.2.2.1
    rcases h.nearest ha with ⟨q1, q2⟩ | ⟨q1, ⟨j, q2, q3⟩, q4⟩
    · have z : md 0 5 = 0 := by rw [m4, q1]; rfl
      rw [q2, if_pos z, if_pos z]
      exact Or.inr ⟨1, _, rfl, by omega, by rw [if_neg (fun q => q rfl)], rfl⟩
    · have z : ¬ md 0 5 = 0 := by rw [m4]; exact nI_ne0 q1 (by omega)
      rw [if_neg z, if_neg z, ← q4, q3]
      exact Or.inl ⟨by rw [if_pos (nI_n1 (by omega))], rfl⟩
  · exact Or.inr ⟨0, _, rfl, by omega, by rw [if_neg hi], by rw [if_neg (fun q => hi (isPl_iff.mpr q))]; rfl⟩
theorem si_reason (h : Rel n cs md) (hW : WD g x M cs md) (w : Int32) : SiI (n + 1500) g x M ["java/lang/IllegalArgumentException", "java/util/NoSuchElementException"] (if ¬ w < 0 ∧ w ≤ 2 then if ¬ cs 11 3 10 = 0 then .inl (some (.int (rsV cs w)), M) else .inr ("java/util/NoSuchElementException", M) else .inr ("java/lang/IllegalArgumentException", M)) (if inB w 0 2 then (if md 7 14 = 0 then 0 else if w = 0 then md 7 14 else if w = 1 then md 7 15 else md 7 17) else 0) (up2 md 7 19 (if inB w 0 2 then (if md 7 14 = 0 then 2 else 0) else 1)) := by
  refine si_q h hW ?_
  obtain ⟨-, e1, e2, e3⟩ := h.2.2.2.2.2
  have he : (¬ w < 0 ∧ w ≤ 2) ↔ inB w 0 2 := by
    unfold inB
    rw [Int32.not_lt (a := 2)]
  unfold rsV
  rw [e1, e2, e3]
  by_cases hi : ¬ w < 0 ∧ w ≤ 2
  · have hj := he.mp hi
    rw [if_pos hi, if_pos hj, if_pos hj]
    by_cases h0 : md 7 14 = 0
    · exact Or.inr ⟨1, _, rfl, by omega, by rw [if_neg (fun q => q h0)], by rw [if_pos h0]; rfl⟩
    · exact Or.inl ⟨by rw [if_pos h0, if_neg h0], by rw [if_neg h0]⟩
  · exact Or.inr ⟨0, _, rfl, by omega, by rw [if_neg hi], by rw [if_neg (fun q => hi (he.mpr q))]; rfl⟩
theorem si_append (h : Rel n cs md) (hW : WD g x M cs md) {v : Int32} (hv : chOk v) : SiI (n + 1500) g x M ["java/lang/IllegalStateException"] (if cs 11 3 1 < nI 60 then .inl (some (.int (tpS cs v 11 3 1)), (putC g M x (tpS cs v))) else .inr ("java/lang/IllegalStateException", M)) (if md 7 9 = 60 then 0 else md 7 9 + 1) (if md 7 9 = 60 then up2 md 7 19 1 else apM md v) := by
  rcases sim_append h hv with ⟨h1, h2⟩ | ⟨h1, h2, h3, h4⟩
  · rw [if_neg h1, if_pos h2, if_pos h2]
    exact si_q h hW (Or.inr ⟨0, _, rfl, by omega, rfl, rfl⟩)
  · rw [if_pos h1, if_neg h2, if_neg h2, h3]
    exact ⟨_, h4.mono (Nat.le_add_right n 1500), Or.inl ⟨rfl, rfl⟩⟩
theorem si_line (h : Rel n cs md) (hW : WD g x M cs md) (i : Int32) : SiI (n + 1500) g x M ["java/lang/IndexOutOfBoundsException"] (if hasSh (cs 0) i then .inl (some (.int (li2 cs i 11 3 4)), (putC g M x (li2 cs i))) else .inr ("java/lang/IndexOutOfBoundsException", M)) (if inB i 0 (md 0 4 - 1) then lmE md i 7 7 else 0) (if inB i 0 (md 0 4 - 1) then lmE md i else up2 md 7 19 1) := by
  rcases sim_line h (i := i) with ⟨h1, h2⟩ | ⟨h1, h2, h3, h4, h5, h6⟩
  · rw [if_neg h1, if_neg h2, if_neg h2]
    exact si_q h hW (Or.inr ⟨0, _, rfl, by omega, rfl, rfl⟩)
  · rw [if_pos h1, if_pos h2, if_pos h2, h4]
    exact ⟨_, h5.mono (Nat.le_add_right n 1500), Or.inl ⟨rfl, h6⟩⟩
theorem si_character (h : Rel n cs md) (hW : WD g x M cs md) (i : Int32) : SiI (n + 1500) g x M ["java/lang/IndexOutOfBoundsException"] (if ¬ i < 0 ∧ i < cs 11 3 4 then .inl (some (.int (cs 11 2 (i).toNatClampNeg)), M) else .inr ("java/lang/IndexOutOfBoundsException", M)) (if inB i 0 (md 7 7 - 1) then c2I (md 4 (i).toNatClampNeg) else 97) (up2 md 7 19 (if inB i 0 (md 7 7 - 1) then 0 else 1)) := by
  refine si_q h hW ?_
  obtain ⟨-, -, -, he, hv⟩ := sim_char h (i := i)
  by_cases hi : ¬ i < 0 ∧ i < cs 11 3 4
  · have hj := he.mp hi
    rw [if_pos hi, if_pos hj, if_pos hj, hv hj]
    exact Or.inl ⟨rfl, rfl⟩
  · exact Or.inr ⟨0, _, rfl, by omega, by rw [if_neg hi], by rw [if_neg (fun q => hi (he.mpr q))]; rfl⟩
theorem ac_eq (h : Rel n cs md) {w : Int32} (hw : acOk w) : acV cs w = acM md w := by
  obtain ⟨⟨ns, np, nh, nc, t, dh, cu, htn, h⟩, ⟨u, nx, a1, a2, a3, a4, -⟩, -, ⟨L, t1, t2, t3, -⟩, -⟩ := h
  have e0 : cs 0 9 1 = md 0 0 := by rw [h.2.2.2.1.1, h.2.2.2.1.2]
  have e2 : hNow (cs 0) = mHb (md 0) 0 := by rw [h.heat, h.heatM0]
  have e3 : cs 0 9 2 = md 0 1 := by rw [h.2.2.2.2.1.1, h.2.2.2.2.1.2]
  have e4 : cs 0 8 0 = md 0 2 := by rw [h.2.1.1, h.2.2.1.1]
  have e5 : cs 0 8 1 = md 0 3 := by rw [h.2.1.2.1, h.2.2.1.2.1]
  have e6 : cs 0 9 0 = md 0 4 := by rw [h.2.1.2.2.2.2.2.2.2.2, h.2.2.1.2.2.1]
  have e7 : cdF (cs 0) 0 = dwM (md 0) 0 := h.drawn.1
  have e8 : cs 0 8 4 = md 0 5 := by rw [h.2.1.2.2.2.2.1, h.2.2.1.2.2.2]
  have e9 : rsum 6 (cs 0 8 6) (cs 0 6) = tdM (md 0) := h.tied.1
  have e10 : clF (cs 0) = itr (clM (md 0)) 0 (md 0 5).toNatClampNeg := h.lostM2
  have e11 : cs 0 9 3 = md 0 6 := by rw [h.2.2.2.2.2.1.1, h.2.2.2.2.2.1.2]
  have e12 : rsum 6 (cs 0 8 7) (cs 0 7) = md 0 7 := h.drunk
  have e14 : cs 0 9 4 = md 0 8 := h.2.2.2.2.2.2.1
  have e15 : cs 11 3 5 = md 7 3 := by rw [a3, a4]
  have e16 : cs 11 3 1 = md 7 9 := by rw [t2, t3]
  unfold acV acM
  rw [e0, e2, e3, e4, e5, e6, e7, e8, e9, e10, e11, e12, e14, e15, e16]
  by_cases c0 : w = 0
  · rw [if_pos c0, if_pos c0]
  rw [if_neg c0, if_neg c0]
  by_cases c1 : w = 1
  · rw [if_pos c1, if_pos c1]
  rw [if_neg c1, if_neg c1]
  by_cases c2 : w = 2
  · rw [if_pos c2, if_pos c2]
  rw [if_neg c2, if_neg c2]
  by_cases c3 : w = 3
  · rw [if_pos c3, if_pos c3]
  rw [if_neg c3, if_neg c3]
  by_cases c4 : w = 4
  · rw [if_pos c4, if_pos c4]
  rw [if_neg c4, if_neg c4]
  by_cases c5 : w = 5
  · rw [if_pos c5, if_pos c5]
  rw [if_neg c5, if_neg c5]
  by_cases c6 : w = 6
  · rw [if_pos c6, if_pos c6]
  rw [if_neg c6, if_neg c6]
  by_cases c7 : w = 7
  · rw [if_pos c7, if_pos c7]
  rw [if_neg c7, if_neg c7]
  by_cases c8 : w = 8
  · rw [if_pos c8, if_pos c8]
  rw [if_neg c8, if_neg c8]
  by_cases c9 : w = 9
  · rw [if_pos c9, if_pos c9]
  rw [if_neg c9, if_neg c9]
  by_cases c10 : w = 10
  · rw [if_pos c10, if_pos c10]
  rw [if_neg c10, if_neg c10]
  by_cases c11 : w = 11
  · rw [if_pos c11, if_pos c11]
  rw [if_neg c11, if_neg c11]
  by_cases c12 : w = 12
  · rw [if_pos c12, if_pos c12]
  rw [if_neg c12, if_neg c12]
  by_cases c13 : w = 13
  · rw [if_pos c13, if_pos c13]
  rw [if_neg c13, if_neg c13]
  by_cases c14 : w = 14
  · rw [if_pos c14, if_pos c14]
  rw [if_neg c14, if_neg c14]
  by_cases c15 : w = 15
  · rw [if_pos c15, if_pos c15]
  rw [if_neg c15, if_neg c15]
  have c16 : w = 16 := by
    rcases hw with q | q | q | q | q | q | q | q | q | q | q | q | q | q | q | q | q
    all_goals first | exact q | exact absurd q (by assumption)
  rw [if_pos c16]
theorem si_account (h : Rel n cs md) (hW : WD g x M cs md) (w : Int32) : SiI (n + 1500) g x M ["java/lang/IllegalArgumentException"] (if acOk w then .inl (some (.int (acV cs w)), M) else .inr ("java/lang/IllegalArgumentException", M)) (acM md w) (up2 md 7 19 (if w = 0 ∨ w = 1 ∨ w = 2 ∨ w = 3 ∨ w = 4 ∨ w = 5 ∨ w = 6 ∨ w = 7 ∨ w = 8 ∨ w = 9 ∨ w = 10 ∨ w = 11 ∨ w = 12 ∨ w = 13 ∨ w = 14 ∨ w = 15 ∨ w = 16 then 0 else 1)) := by
  refine si_q h hW ?_
  by_cases hw : acOk w
  · exact Or.inl ⟨by rw [if_pos hw, ac_eq h hw], by rw [if_pos hw]⟩
  · exact Or.inr ⟨0, _, rfl, by omega, by rw [if_neg hw], by rw [if_neg hw]; rfl⟩
theorem si_undo (h : Rel n cs md) (hW : WD g x M cs md) : SiI (n + 1500) g x M ["java/lang/IllegalStateException"] (if ¬ cs 11 3 5 = 0 then .inl (some (.int (tbS cs 11 3 5)), (putC g M x (tbS cs))) else .inr ("java/lang/IllegalStateException", M)) (if md 7 3 = 0 then 0 else md 7 3 - 1) (if md 7 3 = 0 then up2 md 7 19 1 else unM md) := by
  rcases sim_undo h with ⟨h1, h2⟩ | ⟨h1, h2, h3, h4⟩
  · rw [if_neg (fun q => q h1), if_pos h2, if_pos h2]
    exact si_q h hW (Or.inr ⟨0, _, rfl, by omega, rfl, rfl⟩)
  · rw [if_pos h1, if_neg h2, if_neg h2, h3]
    exact ⟨_, h4.mono (Nat.le_add_right n 1500), Or.inl ⟨rfl, rfl⟩⟩
theorem si_restore (h : Rel n cs md) (hW : WD g x M cs md) : SiI (n + 1500) g x M ["java/lang/IllegalStateException"] (if ¬ cs 11 3 7 = 0 then .inl (some (.int (cs 2 9 1)), (putC g M x (upS (upC cs 0 (cs 2)) 5 0))) else .inr ("java/lang/IllegalStateException", M)) (if md 7 5 = 0 then 0 else md 3 0) (if md 7 5 = 0 then up2 md 7 19 1 else up2 (up1 (up2 md 7 19 0) 0 (md 3)) 7 3 0) := by
  rcases sim_restore h with ⟨h1, h2⟩ | ⟨h1, h2, h3, h4⟩
  · rw [if_neg (fun q => q h1), if_pos h2, if_pos h2]
    exact si_q h hW (Or.inr ⟨0, _, rfl, by omega, rfl, rfl⟩)
  · rw [if_pos h1, if_neg h2, if_neg h2, h3]
    exact ⟨_, h4.mono (Nat.le_add_right n 1500), Or.inl ⟨rfl, rfl⟩⟩
theorem si_commands (h : Rel n cs md) (hn : n + 1500 < 2 ^ 30) : SiI (n + 1500) g x M ["java/lang/IllegalArgumentException", "java/lang/UnsupportedOperationException"] (if ¬ ccV cs = -1 then if (cmE cs).1 = true then .inl (some (.int (ccV cs)), (putC g M x (kpS (upS (cmE cs).2 1 0)))) else .inr ("java/lang/UnsupportedOperationException", (putC g M x (upS (upC (cmE cs).2 0 ((cmE cs).2 1)) 1 0))) else .inr ("java/lang/IllegalArgumentException", (putC g M x (upS (upS (ccS cs) 8 (ccS cs 11 3 2)) 1 0)))) (cmV2 md) (cmE2 md) := by
  rcases sim_commands h hn with ⟨h1, h2, h3⟩ | ⟨h1, h2, h3, h4⟩ | ⟨h1, h2, h3, h4, h5⟩
  · rw [if_neg (fun q => q h1)]
    exact ⟨_, h2, Or.inr ⟨0, _, rfl, by omega, rfl, h3⟩⟩
  · rw [if_pos h1, if_neg (by rw [h2]; decide)]
    exact ⟨_, h3, Or.inr ⟨1, _, rfl, by omega, rfl, h4⟩⟩
  · rw [if_pos h1, if_pos h2, h5]
    exact ⟨_, h3, Or.inl ⟨rfl, h4⟩⟩
end SI
