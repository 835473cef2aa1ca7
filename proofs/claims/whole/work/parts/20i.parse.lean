/-! THE READING OF A TEXT on both sides: one reading of signs -/
abbrev isD (c : Int32) : Prop := ¬ c < 48 ∧ c ≤ 57
abbrev PT : Type := List (Nat ⊕ Int32)
def tG (L : Nat) (g : Nat → Int32) : Nat → Int32 := fun k => if k < L then g k else 32
def ps (G : Nat → Int32) : PT → Nat → Bool × Nat
  | [], p => (true, p)
  | .inl u :: bs, p => if isD (G p) then ps G bs (if u = 2 ∧ isD (G (p + 1)) then p + 2 else p + 1) else (false, p)
  | .inr v :: bs, p => if G p = v then ps G bs (p + 1) else (false, p)
def nv (G : Nat → Int32) : PT → Nat → List Int32
  | [], _ => []
  | .inl u :: bs, p => (if u = 2 ∧ isD (G (p + 1)) then (G p - 48) * 10 + (G (p + 1) - 48) else G p - 48) :: nv G bs (if u = 2 ∧ isD (G (p + 1)) then p + 2 else p + 1)
  | .inr _ :: bs, p => nv G bs (p + 1)
def knP (c : Int32) : Prop := c = 98 ∨ c = 100 ∨ c = 101 ∨ c = 108 ∨ c = 115 ∨ c = 116 ∨ c = 119
def fmN (c : Int32) : PT := if c = 115 then [.inl 1, .inr 64, .inl 1, .inr 62, .inl 1] else if c = 101 then [.inl 1, .inr 47, .inl 1] else if c = 98 then [.inl 2] else if c = 119 then [.inl 2] else if c = 116 then [.inl 1] else if c = 108 then [.inl 1] else if c = 100 then [.inl 1] else []
def pc (G : Nat → Int32) (p : Nat) : Bool × Nat := if fmN (G p) = [] then (false, p) else ps G (fmN (G p)) (p + 1)
def nvc (G : Nat → Int32) (p : Nat) : List Int32 := nv G (fmN (G p)) (p + 1)
theorem isD_n {c : Int32} (h : isD c) : ∃ e, e < 10 ∧ c = nI (48 + e) ∧ c - 48 = nI e := by
  have h0 : ¬ c < 0 := fun q => h.1 (Int32.lt_of_lt_of_le q (by decide))
  obtain ⟨j, hj, rfl⟩ := nI_of h0
  have h1 : 48 ≤ j := by
    rcases Nat.lt_or_ge j 48 with q | q
    · exact absurd (nI_lt (b := 48) q (by decide)) h.1
    · exact q
  have h2 : j ≤ 57 := by
    rcases Nat.lt_or_ge 57 j with q | q
    · exact absurd h.2 (nI_ge (a := 57) q hj)
    · exact q
  exact ⟨j - 48, by omega, by congr 1; omega, nI_sub (b := 48) h1⟩
theorem isD_1 {c : Int32} (h : isD c) : ¬ c - 48 = -1 := by
  obtain ⟨e, h1, -, h2⟩ := isD_n h
  rw [h2]
  exact nI_n1 (by omega)
theorem isD_32 : ¬ isD 32 := fun h => h.1 (by decide)
theorem ps_le {G : Nat → Int32} : ∀ (bs : PT) (p : Nat), p ≤ (ps G bs p).2 ∧ ((ps G bs p).1 = true → p + bs.length ≤ (ps G bs p).2)
  | [], p => ⟨Nat.le_refl _, fun _ => Nat.le_refl _⟩
  | .inl u :: bs, p => by
    show p ≤ (if isD (G p) then ps G bs (if u = 2 ∧ isD (G (p + 1)) then p + 2 else p + 1) else (false, p)).2 ∧ ((if isD (G p) then ps G bs (if u = 2 ∧ isD (G (p + 1)) then p + 2 else p + 1) else (false, p)).1 = true → p + (bs.length + 1) ≤ (if isD (G p) then ps G bs (if u = 2 ∧ isD (G (p + 1)) then p + 2 else p + 1) else (false, p)).2)
    by_cases h : isD (G p)
    · rw [if_pos h]
      have hn : p + 1 ≤ (if u = 2 ∧ isD (G (p + 1)) then p + 2 else p + 1) := by split <;> omega
      generalize (if u = 2 ∧ isD (G (p + 1)) then p + 2 else p + 1) = q at *
      obtain ⟨h1, h2⟩ := ps_le (G := G) bs q
      exact ⟨by omega, fun k => by have := h2 k; omega⟩
    · rw [if_neg h]
      exact ⟨Nat.le_refl _, fun k => by cases k⟩
  | .inr v :: bs, p => by
    show p ≤ (if G p = v then ps G bs (p + 1) else (false, p)).2 ∧ ((if G p = v then ps G bs (p + 1) else (false, p)).1 = true → p + (bs.length + 1) ≤ (if G p = v then ps G bs (p + 1) else (false, p)).2)
    by_cases h : G p = v
    · rw [if_pos h]
      obtain ⟨h1, h2⟩ := ps_le (G := G) bs (p + 1)
      exact ⟨by omega, fun k => by have := h2 k; omega⟩
    · rw [if_neg h]
      exact ⟨Nat.le_refl _, fun k => by cases k⟩
theorem pc_le {G : Nat → Int32} {p : Nat} : p ≤ (pc G p).2 ∧ ((pc G p).1 = true → p + 2 ≤ (pc G p).2) := by
  unfold pc
  by_cases h : fmN (G p) = []
  · rw [if_pos h]
    exact ⟨Nat.le_refl _, fun k => by cases k⟩
  · rw [if_neg h]
    obtain ⟨h1, h2⟩ := ps_le (G := G) (fmN (G p)) (p + 1)
    have h3 : 0 < (fmN (G p)).length := List.length_pos_iff.mpr h
    exact ⟨by omega, fun k => by have := h2 k; omega⟩
/-! the class -/
def TC (C : CS) (L : Nat) (g : Nat → Int32) (p : Nat) : Prop := C 11 3 1 = nI L ∧ C 11 3 2 = nI p ∧ p ≤ L ∧ L ≤ 60 ∧ ∀ k, k < L → C 11 1 k = g k
def NuC (C : CS) (ws : List Int32) : Prop := C 11 3 0 = nI ws.length ∧ ∀ j, j < ws.length → C 11 0 j = ws.getD j 0
theorem TC.sg {C : CS} {L p : Nat} {g : Nat → Int32} (h : TC C L g p) : sgH C = tG L g p := by
  obtain ⟨h1, h2, h3, h4, h5⟩ := h
  unfold sgH tG
  by_cases hp : p < L
  · rw [if_pos (show tIn C by unfold tIn; rw [h1, h2]; exact ⟨nI_pos (by omega), nI_ge hp (by omega), nI_ge (by omega) (by decide)⟩), if_pos hp, h2, nI_clamp (by omega), h5 p hp]
  · rw [if_neg (show ¬ tIn C by unfold tIn; rw [h1, h2]; exact fun q => q.2.1 (nI_le (by omega) (by omega))), if_neg hp]
theorem TC.step {C : CS} {L p : Nat} {g : Nat → Int32} (h : TC C L g p) (hp : tG L g p ≠ 32) : TC (upS C 2 (C 11 3 2 + 1)) L g (p + 1) := by
  obtain ⟨h1, h2, h3, h4, h5⟩ := h
  have hlt : p < L := by
    rcases Nat.lt_or_ge p L with q | q
    · exact q
    · exact absurd (if_neg (by omega)) hp
  refine ⟨(upS_s (by omega)).trans h1, ?_, by omega, h4, fun k hk => by rw [upS_r (by omega)]; exact h5 k hk⟩
  rw [h2, nI_1]
  rfl
theorem TC.of {C C' : CS} {L p : Nat} {g : Nat → Int32} (h : TC C L g p) (e1 : C' 11 3 1 = C 11 3 1) (e2 : C' 11 3 2 = C 11 3 2) (e3 : C' 11 1 = C 11 1) : TC C' L g p := by
  obtain ⟨h1, h2, h3, h4, h5⟩ := h
  exact ⟨by rw [e1, h1], by rw [e2, h2], h3, h4, fun k hk => by rw [e3]; exact h5 k hk⟩
theorem D32 {c : Int32} (h : isD c) : c ≠ 32 := fun q => isD_32 (q ▸ h)
theorem TC.add {C : CS} {ws : List Int32} (hn : NuC C ws) (hl : ws.length < 3) {v : Int32} : addS C v = upN C (nI (ws.length + 1)) (upd (C 11 0) ws.length v) := by
  have hr : rroom 3 (C 11 3 0) := by rw [hn.1]; exact ⟨nI_pos (by omega), nI_lt hl (by decide)⟩
  unfold addS
  rw [if_pos hr, if_pos hr, hn.1, nI_clamp (by omega), nI_1]
theorem NuC.add {C C' : CS} {ws : List Int32} (hn : NuC C' ws) {v : Int32} (e0 : C 11 3 0 = nI (ws.length + 1)) (e1 : C 11 0 = upd (C' 11 0) ws.length v) : NuC C (ws ++ [v]) := by
  refine ⟨by rw [List.length_append]; exact e0, fun j hj => ?_⟩
  rw [List.length_append] at hj
  rw [e1]
  by_cases hjl : j = ws.length
  · subst hjl
    rw [upd_at]
    simp
  · have hj : j < ws.length := by simp at hj; omega
    rw [upd_ne hjl, hn.2 j hj]
    simp [List.getD, List.getElem?_append_left hj]
theorem TC.upN {X : CS} {L p : Nat} {g : Nat → Int32} (h : TC X L g p) {z : Int32} {f : Nat → Int32} : TC (upN X z f) L g p := h.of rfl rfl rfl
theorem NuC.upN {X : CS} {ws : List Int32} (h : NuC X ws) {v : Int32} : NuC (upN X (nI (ws.length + 1)) (upd (X 11 0) ws.length v)) (ws ++ [v]) := NuC.add (C' := X) h rfl rfl
theorem upN_33 {X : CS} {z : Int32} {f : Nat → Int32} : upN X z f 11 3 3 = X 11 3 3 := rfl
/-- a number is read by the class -/
theorem rn_c {C : CS} {L p u : Nat} {g : Nat → Int32} {ws : List Int32} (h : TC C L g p) (hn : NuC C ws) (hl : ws.length < 3) (hu : u = 1 ∨ u = 2) {o : Int32} (ho : o = 0 ↔ u = 1) :
    (rnP C ↔ isD (tG L g p)) ∧ (¬ isD (tG L g p) → rnS C o = C) ∧ (isD (tG L g p) → TC (rnS C o) L g (if u = 2 ∧ isD (tG L g (p + 1)) then p + 2 else p + 1) ∧ NuC (rnS C o) (ws ++ [if u = 2 ∧ isD (tG L g (p + 1)) then (tG L g p - 48) * 10 + (tG L g (p + 1) - 48) else tG L g p - 48]) ∧ rnS C o 11 3 3 = C 11 3 3) := by
  have hs := h.sg
  have hdg : ∀ (X : CS) (q : Nat), TC X L g q → (dgP X ↔ isD (tG L g q)) ∧ dgV X = (if isD (tG L g q) then tG L g q - 48 else -1) := fun X q hX => by
    unfold dgP dgV dgP
    rw [hX.sg]
    exact ⟨Iff.rfl, rfl⟩
  obtain ⟨d1, d2⟩ := hdg C p h
  have hP : rnP C ↔ isD (tG L g p) := by
    unfold rnP
    rw [d2]
    by_cases hd : isD (tG L g p)
    · rw [if_pos hd]; exact ⟨fun _ => hd, fun _ => isD_1 hd⟩
    · rw [if_neg hd]; exact ⟨fun q => absurd rfl q, fun q => absurd q hd⟩
  refine ⟨hP, fun hd => ?_, fun hd => ?_⟩
  · unfold rnS
    rw [if_pos (by rw [d2, if_neg hd])]
    unfold dgS
    rw [if_neg (fun q => hd (d1.mp q))]
  · have e1 : dgS C = upS C 2 (C 11 3 2 + 1) := by
      unfold dgS
      rw [if_pos (d1.mpr hd)]
    have h1 := h.step (D32 hd)
    rw [← e1] at h1
    have n1 : NuC (dgS C) ws := by rw [e1]; exact hn
    have s1 : dgS C 11 3 3 = C 11 3 3 := by rw [e1]; rfl
    have f1 : dgS C 11 0 = C 11 0 := by rw [e1]; rfl
    unfold rnS
    rw [if_neg (by rw [d2, if_pos hd]; exact isD_1 hd)]
    rcases hu with rfl | rfl
    · rw [if_pos (ho.mpr rfl), if_neg (by omega), if_neg (by omega), TC.add n1 hl, d2, if_pos hd]
      exact ⟨h1.upN, n1.upN, upN_33.trans s1⟩
    · rw [if_neg (fun q => absurd (ho.mp q) (by decide))]
      obtain ⟨g1, g2⟩ := hdg (dgS C) (p + 1) h1
      by_cases hd2 : isD (tG L g (p + 1))
      · have e2 : dgS (dgS C) = upS (dgS C) 2 (dgS C 11 3 2 + 1) := by
          rw [dgS, if_pos (g1.mpr hd2)]
        have h2 := h1.step (D32 hd2)
        rw [← e2] at h2
        have n2 : NuC (dgS (dgS C)) ws := by rw [e2]; exact n1
        have s2 : dgS (dgS C) 11 3 3 = C 11 3 3 := by rw [e2]; exact s1
        have hq2 : (2 : Nat) = 2 ∧ isD (tG L g (p + 1)) := ⟨rfl, hd2⟩
        rw [if_pos hq2, if_pos hq2, g2, if_pos hd2, if_neg (isD_1 hd2), TC.add n2 hl, d2, if_pos hd]
        exact ⟨h2.upN, n2.upN, upN_33.trans s2⟩
      · have e2 : dgS (dgS C) = dgS C := by
          rw [dgS, if_neg (fun q => hd2 (g1.mp q))]
        have hq2 : ¬ ((2 : Nat) = 2 ∧ isD (tG L g (p + 1))) := fun q => hd2 q.2
        rw [if_neg hq2, if_neg hq2, g2, if_neg hd2, if_pos (show (-1 : Int32) = -1 from rfl), e2, TC.add n1 hl, d2, if_pos hd]
        exact ⟨h1.upN, n1.upN, upN_33.trans s1⟩
/-- the class's form beside the parts -/
def MatC (b : List Int32) : Nat → Nat → PT → Prop
  | 0, _, bs => bs = []
  | _ + 1, _, [] => False
  | d + 1, k, .inl u :: bs => ((u = 1 ∧ chI b k = 49) ∨ (u = 2 ∧ chI b k = 50)) ∧ MatC b d (k + 1) bs
  | d + 1, k, .inr v :: bs => (chI b k = v ∧ v ≠ 49 ∧ v ≠ 50 ∧ v ≠ 32) ∧ MatC b d (k + 1) bs
def cntN : PT → Nat
  | [] => 0
  | .inl _ :: bs => cntN bs + 1
  | .inr _ :: bs => cntN bs
theorem rc_ps {b : List Int32} {L : Nat} {g : Nat → Int32} : ∀ (d k : Nat) (bs : PT) (C : CS) (p : Nat) (ws : List Int32), MatC b d k bs → TC C L g p → NuC C ws → ws.length + cntN bs ≤ 3 →
    (rcL b d k C).1 = (ps (tG L g) bs p).1 ∧ TC (rcL b d k C).2 L g (ps (tG L g) bs p).2 ∧ (rcL b d k C).2 11 3 3 = C 11 3 3 ∧ ((ps (tG L g) bs p).1 = true → NuC (rcL b d k C).2 (ws ++ nv (tG L g) bs p))
  | 0, k, bs, C, p, ws, hM, hT, hN, _ => by
    cases hM
    exact ⟨rfl, hT, rfl, fun _ => by show NuC C (ws ++ []); rw [List.append_nil]; exact hN⟩
  | d + 1, k, [], C, p, ws, hM, _, _, _ => hM.elim
  | d + 1, k, .inl u :: bs, C, p, ws, hM, hT, hN, hl => by
    obtain ⟨hu, hM⟩ := hM
    have hl : ws.length + (cntN bs + 1) ≤ 3 := hl
    have hv : chI b k = 49 ∨ chI b k = 50 := hu.elim (fun q => Or.inl q.2) (fun q => Or.inr q.2)
    obtain ⟨r1, r2, r3⟩ := rn_c (u := u) (o := bI (chI b k = 50)) hT hN (by omega) (by omega) (by
      rw [bI_eq]
      rcases hu with ⟨h1, h2⟩ | ⟨h1, h2⟩
      · rw [h2]; exact ⟨fun _ => h1, fun _ => by decide⟩
      · rw [h2]; exact ⟨fun q => absurd rfl q, fun q => by omega⟩)
    have e1 : rcL b (d + 1) k C = if rpP C (chI b k) then rcL b d (k + 1) (rpS C (chI b k)) else (false, rpS C (chI b k)) := rfl
    have e2 : rpS C (chI b k) = rnS C (bI (chI b k = 50)) := by unfold rpS; rw [if_pos hv]
    have e3 : rpP C (chI b k) ↔ isD (tG L g p) := by
      unfold rpP
      rw [r1]
      exact ⟨fun q => q.elim (fun q => q.2) (fun q => absurd hv q.1), fun q => Or.inl ⟨hv, q⟩⟩
    have e4 : ps (tG L g) (.inl u :: bs) p = if isD (tG L g p) then ps (tG L g) bs (if u = 2 ∧ isD (tG L g (p + 1)) then p + 2 else p + 1) else (false, p) := rfl
    rw [e1, e2, e4]
    by_cases hd : isD (tG L g p)
    · rw [if_pos (e3.mpr hd), if_pos hd]
      obtain ⟨t1, t2, t3⟩ := r3 hd
      obtain ⟨i1, i2, i3, i4⟩ := rc_ps d (k + 1) bs _ _ _ hM t1 t2 (by rw [List.length_append]; show ws.length + 1 + cntN bs ≤ 3; omega)
      refine ⟨i1, i2, i3.trans t3, fun q => ?_⟩
      have := i4 q
      rw [List.append_assoc] at this
      exact this
    · rw [if_neg (fun q => hd (e3.mp q)), if_neg hd, r2 hd]
      exact ⟨rfl, hT, rfl, fun q => by cases q⟩
  | d + 1, k, .inr v :: bs, C, p, ws, hM, hT, hN, hl => by
    obtain ⟨⟨hv, n49, n50, n32⟩, hM⟩ := hM
    have hv2 : ¬ (chI b k = 49 ∨ chI b k = 50) := by rw [hv]; exact fun q => q.elim n49 n50
    have e1 : rcL b (d + 1) k C = if rpP C (chI b k) then rcL b d (k + 1) (rpS C (chI b k)) else (false, rpS C (chI b k)) := rfl
    have e2 : rpS C (chI b k) = rsS C v := by unfold rpS; rw [if_neg hv2, hv]
    have e3 : rpP C (chI b k) ↔ tG L g p = v := by
      unfold rpP rsP
      rw [hT.sg, hv]
      rw [hv] at hv2
      exact ⟨fun q => q.elim (fun q => absurd q.1 hv2) (fun q => q.2), fun q => Or.inr ⟨hv2, q⟩⟩
    have e4 : ps (tG L g) (.inr v :: bs) p = if tG L g p = v then ps (tG L g) bs (p + 1) else (false, p) := rfl
    rw [e1, e2, e4]
    by_cases hd : tG L g p = v
    · have e5 : rsS C v = upS C 2 (C 11 3 2 + 1) := by unfold rsS; rw [hT.sg, if_pos hd]
      rw [if_pos (e3.mpr hd), if_pos hd, e5]
      obtain ⟨i1, i2, i3, i4⟩ := rc_ps d (k + 1) bs _ _ ws hM (hT.step (by rw [hd]; exact n32)) (show NuC (upS C 2 (C 11 3 2 + 1)) ws from hN) hl
      exact ⟨i1, i2, i3.trans rfl, i4⟩
    · have e5 : rsS C v = C := by unfold rsS; rw [hT.sg, if_neg hd]
      rw [if_neg (fun q => hd (e3.mp q)), if_neg hd, e5]
      exact ⟨rfl, hT, rfl, fun q => by cases q⟩
theorem fm_mat : ∀ c : Int32, ∀ (_ : fmN c ≠ []), MatC (fmB c) (fmB c).length 0 (.inr c :: fmN c) ∧ (fmB c).length ≠ 0 ∧ (fmB c).length < 2 ^ 31 ∧ cntN (fmN c) ≤ 3 := by
  intro c h
  have hk : c = 115 ∨ c = 101 ∨ c = 98 ∨ c = 119 ∨ c = 116 ∨ c = 108 ∨ c = 100 := by
    unfold fmN at h
    by_cases h1 : c = 115
    · exact Or.inl h1
    rw [if_neg h1] at h
    by_cases h2 : c = 101
    · exact Or.inr (Or.inl h2)
    rw [if_neg h2] at h
    by_cases h3 : c = 98
    · exact Or.inr (Or.inr (Or.inl h3))
    rw [if_neg h3] at h
    by_cases h4 : c = 119
    · exact Or.inr (Or.inr (Or.inr (Or.inl h4)))
    rw [if_neg h4] at h
    by_cases h5 : c = 116
    · exact Or.inr (Or.inr (Or.inr (Or.inr (Or.inl h5))))
    rw [if_neg h5] at h
    by_cases h6 : c = 108
    · exact Or.inr (Or.inr (Or.inr (Or.inr (Or.inr (Or.inl h6)))))
    rw [if_neg h6] at h
    by_cases h7 : c = 100
    · exact Or.inr (Or.inr (Or.inr (Or.inr (Or.inr (Or.inr h7)))))
    rw [if_neg h7] at h
    exact absurd rfl h
  rcases hk with rfl | rfl | rfl | rfl | rfl | rfl | rfl
  · rw [show fmN 115 = [.inl 1, .inr 64, .inl 1, .inr 62, .inl 1] by decide, show fmB 115 = [115, 49, 64, 49, 62, 49] by decide]
    exact ⟨⟨⟨by decide, by decide, by decide, by decide⟩, ⟨Or.inl ⟨rfl, by decide⟩, ⟨by decide, by decide, by decide, by decide⟩, ⟨Or.inl ⟨rfl, by decide⟩, ⟨by decide, by decide, by decide, by decide⟩, ⟨Or.inl ⟨rfl, by decide⟩, rfl⟩⟩⟩⟩, by decide, by decide, by decide⟩
  · rw [show fmN 101 = [.inl 1, .inr 47, .inl 1] by decide, show fmB 101 = [101, 49, 47, 49] by decide]
    exact ⟨⟨⟨by decide, by decide, by decide, by decide⟩, ⟨Or.inl ⟨rfl, by decide⟩, ⟨by decide, by decide, by decide, by decide⟩, ⟨Or.inl ⟨rfl, by decide⟩, rfl⟩⟩⟩, by decide, by decide, by decide⟩
  · rw [show fmN 98 = [.inl 2] by decide, show fmB 98 = [98, 50] by decide]
    exact ⟨⟨⟨by decide, by decide, by decide, by decide⟩, ⟨Or.inr ⟨rfl, by decide⟩, rfl⟩⟩, by decide, by decide, by decide⟩
  · rw [show fmN 119 = [.inl 2] by decide, show fmB 119 = [119, 50] by decide]
    exact ⟨⟨⟨by decide, by decide, by decide, by decide⟩, ⟨Or.inr ⟨rfl, by decide⟩, rfl⟩⟩, by decide, by decide, by decide⟩
  · rw [show fmN 116 = [.inl 1] by decide, show fmB 116 = [116, 49] by decide]
    exact ⟨⟨⟨by decide, by decide, by decide, by decide⟩, ⟨Or.inl ⟨rfl, by decide⟩, rfl⟩⟩, by decide, by decide, by decide⟩
  · rw [show fmN 108 = [.inl 1] by decide, show fmB 108 = [108, 49] by decide]
    exact ⟨⟨⟨by decide, by decide, by decide, by decide⟩, ⟨Or.inl ⟨rfl, by decide⟩, rfl⟩⟩, by decide, by decide, by decide⟩
  · rw [show fmN 100 = [.inl 1] by decide, show fmB 100 = [100, 49] by decide]
    exact ⟨⟨⟨by decide, by decide, by decide, by decide⟩, ⟨Or.inl ⟨rfl, by decide⟩, rfl⟩⟩, by decide, by decide, by decide⟩
theorem fm_no {c : Int32} (h : fmN c = []) : fmB c = [] := by
  have n : ∀ w : Int32, fmN w ≠ [] → c ≠ w := fun w hw q => hw (q ▸ h)
  unfold fmB fmI
  rw [if_neg (n 98 (by decide)), if_neg (n 100 (by decide)), if_neg (n 101 (by decide)), if_neg (n 108 (by decide)), if_neg (n 115 (by decide)), if_neg (n 116 (by decide)), if_neg (n 119 (by decide))]
  rfl
/-- a command is read by the class -/
theorem rc_pc {C : CS} {L p : Nat} {g : Nat → Int32} (h : TC C L g p) : (rcP C ↔ (pc (tG L g) p).1 = true) ∧ TC (rcS C) L g (pc (tG L g) p).2 ∧ ((pc (tG L g) p).1 = true → rcS C 11 3 3 = tG L g p ∧ NuC (rcS C) (nvc (tG L g) p)) := by
  have h0 : TC (rc0 C) L g p := h.of rfl rfl rfl
  have n0 : NuC (rc0 C) [] := ⟨rfl, fun j hj => absurd hj (by simp)⟩
  have k0 : rc0 C 11 3 3 = tG L g p := by
    have hT : TC (upN C 0 (C 11 0)) L g p := h.of rfl rfl rfl
    rw [← hT.sg]
    rfl
  unfold rcP rcS rcB
  rw [k0]
  generalize rc0 C = X at *
  unfold pc nvc
  by_cases hf : fmN (tG L g p) = []
  · rw [if_pos hf, fm_no hf]
    exact ⟨⟨fun q => absurd rfl q.2, fun q => by cases q⟩, h0, fun q => by cases q⟩
  · rw [if_neg hf]
    obtain ⟨m1, m2, m3, m4⟩ := fm_mat _ hf
    obtain ⟨i1, i2, i3, i4⟩ := rc_ps _ 0 _ X p [] m1 h0 n0 (by show 0 + cntN (fmN (tG L g p)) ≤ 3; omega)
    have e : ps (tG L g) (.inr (tG L g p) :: fmN (tG L g p)) p = ps (tG L g) (fmN (tG L g p)) (p + 1) := by
      show (if tG L g p = tG L g p then _ else _) = _
      rw [if_pos rfl]
    rw [e] at i1 i2 i4
    rw [i1]
    exact ⟨⟨fun q => q.1, fun q => ⟨q, nI_ne0 (by omega) m3⟩⟩, i2, fun q => ⟨i3.trans k0, i4 q⟩⟩
/-! the reference -/
def TM (U : FL) (L : Nat) (g : Nat → Int32) (p : Nat) : Prop := U 7 9 = nI L ∧ U 7 10 = nI p ∧ p ≤ L ∧ L ≤ 60 ∧ ∀ k, k < L → U 5 k = g k
def NuM (U : FL) (ws : List Int32) : Prop := ∀ j, j < ws.length → U 6 j = ws.getD j 0
theorem TM.of {U V : FL} {L p : Nat} {g : Nat → Int32} (h : TM U L g p) (e1 : V 7 9 = U 7 9) (e2 : V 7 10 = U 7 10) (e3 : V 5 = U 5) : TM V L g p := by
  obtain ⟨h1, h2, h3, h4, h5⟩ := h
  exact ⟨by rw [e1, h1], by rw [e2, h2], h3, h4, fun k hk => by rw [e3]; exact h5 k hk⟩
theorem TM.ch {U : FL} {L p : Nat} {g : Nat → Int32} (h : TM U L g p) (hp : p < L) : chM U = tG L g p := by
  obtain ⟨h1, h2, h3, h4, h5⟩ := h
  show U 5 (U 7 10).toNatClampNeg = _
  rw [h2, nI_clamp (by omega), h5 p hp]
  unfold tG
  rw [if_pos hp]
theorem TM.at1 {U : FL} {L p : Nat} {g : Nat → Int32} (h : TM U L g p) (hp : p < L) : TM (up2 U 7 10 (U 7 10 + 1)) L g (p + 1) := by
  obtain ⟨h1, h2, h3, h4, h5⟩ := h
  refine ⟨h1, ?_, by omega, h4, h5⟩
  rw [h2, nI_1]
  rfl
theorem tG_lt {L p : Nat} {g : Nat → Int32} (h : tG L g p ≠ 32) : p < L := by
  rcases Nat.lt_or_ge p L with q | q
  · exact q
  · exact absurd (if_neg (by omega)) h
theorem TM.nx {U : FL} {L p : Nat} {g : Nat → Int32} (h : TM U L g p) {v : Int32} (hv : v ≠ 32) : (nxP U v ↔ tG L g p = v) ∧ (tG L g p = v → TM (nxS U v) L g (p + 1)) ∧ (¬ tG L g p = v → nxS U v = U) ∧ nxS U v 6 = U 6 ∧ nxS U v 7 11 = U 7 11 := by
  have hP : nxP U v ↔ tG L g p = v := by
    by_cases hp : p < L
    · unfold nxP
      rw [h.ch hp, h.1, h.2.1]
      have h9 := h.2.2.2.1
      have : ¬ nI p = nI L := fun q => by have := (nI_eq (by omega) (by omega)).mp q; omega
      exact ⟨fun q => q.2, fun q => ⟨this, q⟩⟩
    · have e : tG L g p = 32 := if_neg hp
      have h3 := h.2.2.1
      have : p = L := by omega
      subst this
      rw [e]
      exact ⟨fun q => absurd (h.2.1.trans h.1.symm) q.1, fun q => absurd q.symm hv⟩
  refine ⟨hP, fun q => ?_, fun q => ?_, ?_, ?_⟩
  · unfold nxS
    rw [if_pos (hP.mpr q)]
    exact h.at1 (tG_lt (by rw [q]; exact hv))
  · unfold nxS
    rw [if_neg (fun q2 => q (hP.mp q2))]
  · unfold nxS
    split <;> rfl
  · unfold nxS
    split <;> rfl
theorem TM.dq {U : FL} {L p : Nat} {g : Nat → Int32} (h : TM U L g p) : dgQ U ↔ isD (tG L g p) := by
  by_cases hp : p < L
  · unfold dgQ
    rw [h.ch hp, h.1, h.2.1]
    have h9 := h.2.2.2.1
    have h1 : ¬ nI L ≤ nI p := nI_ge hp (by omega)
    have h2 : inB (tG L g p) 48 57 ↔ isD (tG L g p) := by
      unfold inB isD
      rw [Int32.not_lt (a := 57)]
    rw [h2]
    exact ⟨fun q => q.2, fun q => ⟨h1, q⟩⟩
  · have e : tG L g p = 32 := if_neg hp
    have h3 := h.2.2.1
    have : p = L := by omega
    subst this
    rw [e]
    unfold dgQ
    rw [h.1, h.2.1]
    exact ⟨fun q => absurd (Int32.le_refl _) q.1, fun q => absurd q isD_32⟩
theorem NuM.add {U V : FL} {ws : List Int32} (hn : NuM U ws) {v : Int32} (e : V 6 = upd (U 6) ws.length v) : NuM V (ws ++ [v]) := by
  intro j hj
  rw [List.length_append] at hj
  rw [e]
  by_cases hjl : j = ws.length
  · subst hjl
    rw [upd_at]
    simp
  · have hj : j < ws.length := by simp at hj; omega
    rw [upd_ne hjl, hn j hj]
    simp [List.getD, List.getElem?_append_left hj]
theorem dg_m {U : FL} {L p u : Nat} {g : Nat → Int32} {ws : List Int32} (h : TM U L g p) (hn : NuM U ws) (hl : ws.length < 3) (hu : u = 1 ∨ u = 2) :
    (dgQ (dg0 U (nI ws.length)) ↔ isD (tG L g p)) ∧ (¬ isD (tG L g p) → TM (dgT U (nI ws.length) (nI u)) L g p) ∧ dgT U (nI ws.length) (nI u) 7 11 = U 7 11 ∧ (isD (tG L g p) → TM (dgT U (nI ws.length) (nI u)) L g (if u = 2 ∧ isD (tG L g (p + 1)) then p + 2 else p + 1) ∧ NuM (dgT U (nI ws.length) (nI u)) (ws ++ [if u = 2 ∧ isD (tG L g (p + 1)) then (tG L g p - 48) * 10 + (tG L g (p + 1) - 48) else tG L g p - 48])) := by
  have e0 : dg0 U (nI ws.length) = up1 U 6 (upd (U 6) ws.length 0) := by unfold dg0; rw [nI_clamp (by omega)]
  have h0 : TM (dg0 U (nI ws.length)) L g p := by rw [e0]; exact h.of rfl rfl rfl
  have q0 := h0.dq
  have hk : ∀ (d : Nat) (X : FL), dgL (nI ws.length) d X 7 11 = X 7 11 := by
    intro d
    induction d with
    | zero => intro X; rfl
    | succ d ih =>
      intro X
      show (if dgQ X then dgL (nI ws.length) d (dg1 X (nI ws.length)) else X) 7 11 = _
      split
      · rw [ih]; rfl
      · rfl
  have d1 : ∀ (X : FL) (q : Nat), TM X L g q → isD (tG L g q) → TM (dg1 X (nI ws.length)) L g (q + 1) ∧ dg1 X (nI ws.length) 6 = upd (X 6) ws.length (10 * X 6 ws.length + tG L g q - 48) := fun X q hX hD => by
    have hq := tG_lt (D32 hD)
    unfold dg1
    rw [nI_clamp (by omega), hX.ch hq]
    exact ⟨(hX.at1 hq).of rfl rfl rfl, rfl⟩
  have hT : dgT U (nI ws.length) (nI u) = dgL (nI ws.length) u (dg0 U (nI ws.length)) := by
    unfold dgT
    rw [nI_clamp (by omega)]
  rw [hT]
  refine ⟨q0, fun hd => ?_, (hk _ _).trans (by rw [e0]; rfl), fun hd => ?_⟩
  · obtain ⟨u', rfl⟩ : ∃ u', u = u' + 1 := ⟨u - 1, by omega⟩
    show TM (if dgQ (dg0 U (nI ws.length)) then _ else _) L g p
    rw [if_neg (fun q => hd (q0.mp q))]
    exact h0
  · obtain ⟨t1, t2⟩ := d1 _ p h0 hd
    have v1 : dg0 U (nI ws.length) 6 = upd (U 6) ws.length 0 := by rw [e0]; rfl
    have e1 : dg1 (dg0 U (nI ws.length)) (nI ws.length) 6 = upd (U 6) ws.length (tG L g p - 48) := by
      rw [t2, v1, upd_at, Int32.mul_zero, Int32.zero_add]
      funext j
      by_cases hj : j = ws.length
      · subst hj; rw [upd_at, upd_at]
      · rw [upd_ne hj, upd_ne hj, upd_ne hj]
    rcases hu with rfl | rfl
    · rw [if_neg (by omega), if_neg (by omega)]
      have e2 : dgL (nI ws.length) 1 (dg0 U (nI ws.length)) = dg1 (dg0 U (nI ws.length)) (nI ws.length) := by
        show (if dgQ (dg0 U (nI ws.length)) then _ else _) = _
        rw [if_pos (q0.mpr hd)]
        rfl
      rw [e2]
      exact ⟨t1, hn.add e1⟩
    · have e2 : dgL (nI ws.length) 2 (dg0 U (nI ws.length)) = if dgQ (dg1 (dg0 U (nI ws.length)) (nI ws.length)) then dg1 (dg1 (dg0 U (nI ws.length)) (nI ws.length)) (nI ws.length) else dg1 (dg0 U (nI ws.length)) (nI ws.length) := by
        show (if dgQ (dg0 U (nI ws.length)) then _ else _) = _
        rw [if_pos (q0.mpr hd)]
        rfl
      rw [e2]
      by_cases hd2 : isD (tG L g (p + 1))
      · rw [if_pos (t1.dq.mpr hd2), if_pos ⟨rfl, hd2⟩, if_pos ⟨rfl, hd2⟩]
        obtain ⟨s1, s2⟩ := d1 _ (p + 1) t1 hd2
        refine ⟨s1, hn.add ?_⟩
        rw [s2, e1, upd_at]
        funext j
        by_cases hj : j = ws.length
        · subst hj
          rw [upd_at, upd_at, Int32.mul_comm, Int32.sub_eq_add_neg (a := _ + _), Int32.add_assoc, ← Int32.sub_eq_add_neg]
        · rw [upd_ne hj, upd_ne hj, upd_ne hj]
      · rw [if_neg (fun q => hd2 (t1.dq.mp q)), if_neg (fun q => hd2 q.2), if_neg (fun q => hd2 q.2)]
        exact ⟨t1, hn.add e1⟩
def MatM : Nat → PT → List ((Int32 × Int32) ⊕ Int32) → Prop
  | _, [], bs' => bs' = []
  | m, .inl u :: bs, .inl q :: bs' => (q = (nI m, nI u) ∧ (u = 1 ∨ u = 2)) ∧ MatM (m + 1) bs bs'
  | m, .inr v :: bs, .inr v' :: bs' => (v' = v ∧ v ≠ 32) ∧ MatM m bs bs'
  | _, _, _ => False
theorem mp_ps {L : Nat} {g : Nat → Int32} : ∀ (bs : PT) (bs' : List ((Int32 × Int32) ⊕ Int32)) (U : FL) (p : Nat) (ws : List Int32), MatM ws.length bs bs' → TM U L g p → NuM U ws → ws.length + cntN bs ≤ 3 →
    (mpL bs' U).1 = (ps (tG L g) bs p).1 ∧ TM (mpL bs' U).2 L g (ps (tG L g) bs p).2 ∧ (mpL bs' U).2 7 11 = U 7 11 ∧ ((ps (tG L g) bs p).1 = true → NuM (mpL bs' U).2 (ws ++ nv (tG L g) bs p))
  | [], bs', U, p, ws, hM, hT, hN, _ => by
    cases (show bs' = [] by unfold MatM at hM; exact hM)
    exact ⟨rfl, hT, rfl, fun _ => by show NuM U (ws ++ []); rw [List.append_nil]; exact hN⟩
  | .inl u :: bs, .inl q :: bs', U, p, ws, hM, hT, hN, hl => by
    obtain ⟨⟨rfl, hu⟩, hM⟩ := hM
    have hl : ws.length + (cntN bs + 1) ≤ 3 := hl
    obtain ⟨r1, r2, r3, r4⟩ := dg_m (u := u) hT hN (by omega) hu
    have e1 : mpL (.inl (nI ws.length, nI u) :: bs') U = if dgQ (dg0 U (nI ws.length)) then mpL bs' (dgT U (nI ws.length) (nI u)) else (false, dgT U (nI ws.length) (nI u)) := rfl
    have e4 : ps (tG L g) (.inl u :: bs) p = if isD (tG L g p) then ps (tG L g) bs (if u = 2 ∧ isD (tG L g (p + 1)) then p + 2 else p + 1) else (false, p) := rfl
    rw [e1, e4]
    by_cases hd : isD (tG L g p)
    · rw [if_pos (r1.mpr hd), if_pos hd]
      obtain ⟨t1, t2⟩ := r4 hd
      obtain ⟨i1, i2, i3, i4⟩ := mp_ps bs bs' _ _ _ (by rw [List.length_append]; exact hM) t1 t2 (by rw [List.length_append]; show ws.length + 1 + cntN bs ≤ 3; omega)
      refine ⟨i1, i2, i3.trans r3, fun q => ?_⟩
      have := i4 q
      rw [List.append_assoc] at this
      exact this
    · rw [if_neg (fun q => hd (r1.mp q)), if_neg hd]
      exact ⟨rfl, r2 hd, r3, fun q => by cases q⟩
  | .inr v :: bs, .inr v' :: bs', U, p, ws, hM, hT, hN, hl => by
    obtain ⟨⟨rfl, n32⟩, hM⟩ := hM
    obtain ⟨r1, r2, r3, r4, r5⟩ := hT.nx n32
    have e1 : mpL (.inr v' :: bs') U = if nxP U v' then mpL bs' (nxS U v') else (false, nxS U v') := rfl
    have e4 : ps (tG L g) (.inr v' :: bs) p = if tG L g p = v' then ps (tG L g) bs (p + 1) else (false, p) := rfl
    rw [e1, e4]
    by_cases hd : tG L g p = v'
    · rw [if_pos (r1.mpr hd), if_pos hd]
      obtain ⟨i1, i2, i3, i4⟩ := mp_ps bs bs' _ _ ws hM (r2 hd) (fun j hj => by rw [r4]; exact hN j hj) hl
      exact ⟨i1, i2, i3.trans r5, i4⟩
    · rw [if_neg (fun q => hd (r1.mp q)), if_neg hd, r3 hd]
      exact ⟨rfl, hT, rfl, fun q => by cases q⟩
  | .inl _ :: _, [], _, _, _, hM, _, _, _ => hM.elim
  | .inl _ :: _, .inr _ :: _, _, _, _, hM, _, _, _ => hM.elim
  | .inr _ :: _, [], _, _, _, hM, _, _, _ => hM.elim
  | .inr _ :: _, .inl _ :: _, _, _, _, hM, _, _, _ => hM.elim
/-- a command is read by the reference -/
theorem ic_pc {U : FL} {L p : Nat} {g : Nat → Int32} (h : TM U L g p) : (icR U).1 = (pc (tG L g) p).1 ∧ TM (icR U).2 L g (pc (tG L g) p).2 ∧ ((pc (tG L g) p).1 = true → (icR U).2 7 11 = tG L g p ∧ NuM (icR U).2 (nvc (tG L g) p)) := by
  have h9 := h.2.2.2.1
  have h3 := h.2.2.1
  unfold icR pc nvc
  by_cases hp : p < L
  · have hne : ¬ U 7 10 = U 7 9 := by
      rw [h.1, h.2.1]
      exact fun q => by have := (nI_eq (by omega) (by omega)).mp q; omega
    have hch := h.ch hp
    rw [if_neg hne, hch]
    have hT1 : TM (ic1 U) L g (p + 1) := (h.at1 hp).of rfl rfl rfl
    have ho : ic1 U 7 11 = tG L g p := by rw [← hch]; rfl
    have key : ∀ (bs : PT) (bs' : List ((Int32 × Int32) ⊕ Int32)), fmN (tG L g p) = bs → bs ≠ [] → MatM 0 bs bs' → cntN bs ≤ 3 → (mpL bs' (ic1 U)).1 = (if fmN (tG L g p) = [] then (false, p) else ps (tG L g) (fmN (tG L g p)) (p + 1)).1 ∧ TM (mpL bs' (ic1 U)).2 L g (if fmN (tG L g p) = [] then (false, p) else ps (tG L g) (fmN (tG L g p)) (p + 1)).2 ∧ ((if fmN (tG L g p) = [] then (false, p) else ps (tG L g) (fmN (tG L g p)) (p + 1)).1 = true → (mpL bs' (ic1 U)).2 7 11 = tG L g p ∧ NuM (mpL bs' (ic1 U)).2 (nv (tG L g) (fmN (tG L g p)) (p + 1))) := fun bs bs' e1 e2 e3 e4 => by
      rw [e1, if_neg e2]
      obtain ⟨i1, i2, i3, i4⟩ := mp_ps bs bs' (ic1 U) (p + 1) [] e3 hT1 (fun j hj => absurd hj (by simp)) (by show 0 + cntN bs ≤ 3; omega)
      exact ⟨i1, i2, fun q => ⟨i3.trans ho, i4 q⟩⟩
    generalize tG L g p = c at *
    by_cases c98 : c = 98
    · rw [if_pos c98]
      exact key [.inl 2] lfB (by rw [c98]; decide) (by decide) ⟨⟨rfl, Or.inr rfl⟩, rfl⟩ (by decide)
    rw [if_neg c98]
    by_cases c100 : c = 100
    · rw [if_pos c100]
      exact key [.inl 1] lfT (by rw [c100]; decide) (by decide) ⟨⟨rfl, Or.inl rfl⟩, rfl⟩ (by decide)
    rw [if_neg c100]
    by_cases c101 : c = 101
    · rw [if_pos c101]
      exact key [.inl 1, .inr 47, .inl 1] lfE (by rw [c101]; decide) (by decide) ⟨⟨rfl, Or.inl rfl⟩, ⟨rfl, by decide⟩, ⟨rfl, Or.inl rfl⟩, rfl⟩ (by decide)
    rw [if_neg c101]
    by_cases c108 : c = 108
    · rw [if_pos c108]
      exact key [.inl 1] lfT (by rw [c108]; decide) (by decide) ⟨⟨rfl, Or.inl rfl⟩, rfl⟩ (by decide)
    rw [if_neg c108]
    by_cases c115 : c = 115
    · rw [if_pos c115]
      exact key [.inl 1, .inr 64, .inl 1, .inr 62, .inl 1] lfS (by rw [c115]; decide) (by decide) ⟨⟨rfl, Or.inl rfl⟩, ⟨rfl, by decide⟩, ⟨rfl, Or.inl rfl⟩, ⟨rfl, by decide⟩, ⟨rfl, Or.inl rfl⟩, rfl⟩ (by decide)
    rw [if_neg c115]
    by_cases c116 : c = 116
    · rw [if_pos c116]
      exact key [.inl 1] lfT (by rw [c116]; decide) (by decide) ⟨⟨rfl, Or.inl rfl⟩, rfl⟩ (by decide)
    rw [if_neg c116]
    by_cases c119 : c = 119
    · rw [if_pos c119]
      exact key [.inl 2] lfB (by rw [c119]; decide) (by decide) ⟨⟨rfl, Or.inr rfl⟩, rfl⟩ (by decide)
    rw [if_neg c119]
    have hno : fmN c = [] := by
      unfold fmN
      rw [if_neg c115, if_neg c101, if_neg c98, if_neg c119, if_neg c116, if_neg c108, if_neg c100]
    rw [hno, if_pos rfl]
    exact ⟨rfl, h.of rfl rfl rfl, fun q => by cases q⟩
  · have e : p = L := by omega
    subst e
    have e32 : tG p g p = 32 := if_neg (by omega)
    have hno : fmN (tG p g p) = [] := by rw [e32]; decide
    rw [if_pos (h.2.1.trans h.1.symm), hno, if_pos rfl]
    exact ⟨rfl, h, fun q => by cases q⟩
