/-! WHAT THE CELLS HOLD: a Row at r; a Flat at a (17 cells); the class at x (196 cells); the reference at m (8 cells). All numbers stand in functions of a row and a place. -/
abbrev FL : Type := Nat → Nat → Int32
def up1 (fl : FL) (k : Nat) (f : Nat → Int32) : FL := fun j => if j = k then f else fl j
def up2 (fl : FL) (k i : Nat) (v : Int32) : FL := up1 fl k (upd (fl k) i v)
theorem up1_at {fl : FL} {k : Nat} {f : Nat → Int32} : up1 fl k f k = f := by simp [up1]
theorem up1_ne {fl : FL} {k j : Nat} {f : Nat → Int32} (h : j ≠ k) : up1 fl k f j = fl j := by simp [up1, h]
theorem up2_at {fl : FL} {k i : Nat} {v : Int32} : up2 fl k i v k i = v := by simp [up2, up1, upd]
theorem up2_ni {fl : FL} {k i j : Nat} {v : Int32} (h : j ≠ i) : up2 fl k i v k j = fl k j := by simp [up2, up1, upd, h]
theorem up2_nk {fl : FL} {k i q : Nat} {v : Int32} (h : q ≠ k) : up2 fl k i v q = fl q := by simp [up2, up1, h]
def RowAt (g : GC) (M : HM) (r n : Nat) (sz : Int32) (f : Nat → Int32) : Prop := M r = some (.inr (5, [.ref (r + 1), .int sz])) ∧ M (r + 1) = some (.inl (gI g, n, .inl f))
def putR (g : GC) (M : HM) (r n : Nat) (sz : Int32) (f : Nat → Int32) : HM := fun q => if q = r then some (.inr (5, [.ref (r + 1), .int sz])) else if q = r + 1 then some (.inl (gI g, n, .inl f)) else M q
theorem RowAt.put {g : GC} {M : HM} {r n : Nat} {sz : Int32} {f : Nat → Int32} : RowAt g (putR g M r n sz f) r n sz f := ⟨by simp [putR], by simp [putR]⟩
theorem RowAt.far {g : GC} {M : HM} {r n r2 n2 : Nat} {sz sz2 : Int32} {f f2 : Nat → Int32} (h : RowAt g M r n sz f) (hd : r + 1 < r2 ∨ r2 + 1 < r) : RowAt g (putR g M r2 n2 sz2 f2) r n sz f := by
  obtain ⟨h1, h2⟩ := h
  refine ⟨?_, ?_⟩
  · rw [← h1]; simp only [putR]; rw [if_neg (by omega), if_neg (by omega)]
  · rw [← h2]; simp only [putR]; rw [if_neg (by omega), if_neg (by omega)]
theorem putR_size {g : GC} {M : HM} {r n : Nat} {sz v : Int32} {f : Nat → Int32} (h : RowAt g M r n sz f) {fs : List Value} (hfs : fs = [.ref (r + 1), .int v]) : upM M r (.inr (5, fs)) = putR g M r n v f := by
  subst hfs
  funext q
  unfold upM putR
  by_cases h1 : q = r
  · simp [h1]
  · by_cases h2 : q = r + 1
    · rw [if_neg h1, if_neg h1, if_pos h2, h2, h.2]
    · rw [if_neg h1, if_neg h1, if_neg h2]
theorem putR_items {g : GC} {M : HM} {r n : Nat} {sz : Int32} {f f2 : Nat → Int32} (h : RowAt g M r n sz f) : upM M (r + 1) (.inl (gI g, n, .inl f2)) = putR g M r n sz f2 := by
  funext q
  unfold upM putR
  by_cases h1 : q = r
  · rw [if_neg (by omega), if_pos h1, h1, h.1]
  · by_cases h2 : q = r + 1
    · rw [if_pos h2, if_neg h1]
    · rw [if_neg h2, if_neg h1]
theorem putR_putR {g : GC} {M : HM} {r n : Nat} {sz sz2 : Int32} {f f2 : Nat → Int32} : putR g (putR g M r n sz f) r n sz2 f2 = putR g M r n sz2 f2 := by
  funext q
  unfold putR
  by_cases h1 : q = r
  · simp [h1]
  · by_cases h2 : q = r + 1
    · simp [h2]
    · simp [h1, h2]
theorem putR_same {g : GC} {M : HM} {r n : Nat} {sz : Int32} {f : Nat → Int32} (h : RowAt g M r n sz f) : putR g M r n sz f = M := by
  funext q
  unfold putR
  by_cases h1 : q = r
  · rw [if_pos h1, h1, h.1]
  · by_cases h2 : q = r + 1
    · rw [if_neg h1, if_pos h2, h2, h.2]
    · rw [if_neg h1, if_neg h2]
-- the Flat: rows 0 to 7 are its rows, row 8 their sizes, row 9: 0 sheets, 1 hour, 2 heat of the day, 3 cups, 4 sightings (5: the cups that camels drank, for the reference)
def lenF : Nat → Nat
  | 0 => 10
  | 1 => 4
  | 2 => 4
  | 3 => 30
  | _ => 6
def flO (a : Nat) (fl : FL) : List Value := [.ref (a + 1), .ref (a + 3), .ref (a + 5), .ref (a + 7), .ref (a + 9), .ref (a + 11), .ref (a + 13), .ref (a + 15), .int (fl 9 0), .int (fl 9 1), .int (fl 9 2), .int (fl 9 3), .int (fl 9 4)]
def flC (g : GC) (a : Nat) (fl : FL) (j : Nat) : va_E := if j = 0 then .inr (2, flO a fl) else if j % 2 = 1 then .inr (5, [.ref (a + j + 1), .int (fl 8 ((j - 1) / 2))]) else .inl (gI g, lenF ((j - 2) / 2), .inl (fl ((j - 2) / 2)))
def FlatAt (g : GC) (M : HM) (a : Nat) (fl : FL) : Prop := ∀ j, j < 17 → M (a + j) = some (flC g a fl j)
def putF (g : GC) (M : HM) (a : Nat) (fl : FL) : HM := fun q => if a ≤ q ∧ q < a + 17 then some (flC g a fl (q - a)) else M q
def upR (fl : FL) (k : Nat) (sz : Int32) (f : Nat → Int32) : FL := up2 (up1 fl k f) 8 k sz
theorem FlatAt.o {g : GC} {M : HM} {a : Nat} {fl : FL} (h : FlatAt g M a fl) : M a = some (.inr (2, flO a fl)) := h 0 (by omega)
theorem FlatAt.row {g : GC} {M : HM} {a : Nat} {fl : FL} (h : FlatAt g M a fl) {k r n : Nat} (hk : k < 8) (hr : r = a + 1 + 2 * k) (hn : n = lenF k) : RowAt g M r n (fl 8 k) (fl k) := by
  subst hr; subst hn
  have h1 := h (1 + 2 * k) (by omega)
  have h2 := h (2 + 2 * k) (by omega)
  refine ⟨?_, ?_⟩
  · rw [show a + 1 + 2 * k = a + (1 + 2 * k) by omega, h1]
    unfold flC
    rw [if_neg (by omega), if_pos (by omega), show (1 + 2 * k - 1) / 2 = k by omega]
  · rw [show a + 1 + 2 * k + 1 = a + (2 + 2 * k) by omega, h2]
    unfold flC
    rw [if_neg (by omega), if_neg (by omega), show (2 + 2 * k - 2) / 2 = k by omega]
theorem FlatAt.put {g : GC} {M : HM} {a : Nat} {fl : FL} : FlatAt g (putF g M a fl) a fl := by
  intro j hj
  unfold putF
  rw [if_pos (by omega), show a + j - a = j by omega]
theorem FlatAt.far {g : GC} {M : HM} {a b : Nat} {fl fl2 : FL} (h : FlatAt g M a fl) (hd : a + 17 ≤ b ∨ b + 17 ≤ a) : FlatAt g (putF g M b fl2) a fl := by
  intro j hj
  unfold putF
  rw [if_neg (by omega), h j hj]
theorem putF_putF {g : GC} {M : HM} {a : Nat} {fl fl2 : FL} : putF g (putF g M a fl) a fl2 = putF g M a fl2 := by
  funext q
  unfold putF
  by_cases h : a ≤ q ∧ q < a + 17
  · rw [if_pos h, if_pos h]
  · rw [if_neg h, if_neg h, if_neg h]
theorem putF_same {g : GC} {M : HM} {a : Nat} {fl : FL} (h : FlatAt g M a fl) : putF g M a fl = M := by
  funext q
  unfold putF
  by_cases hq : a ≤ q ∧ q < a + 17
  · rw [if_pos hq, ← h (q - a) (by omega), show a + (q - a) = q by omega]
  · rw [if_neg hq]
theorem putF_row {g : GC} {M : HM} {a : Nat} {fl : FL} (h : FlatAt g M a fl) {k r n : Nat} {sz : Int32} {f : Nat → Int32} (hk : k < 8) (hr : r = a + 1 + 2 * k) (hn : n = lenF k) : putR g M r n sz f = putF g M a (upR fl k sz f) := by
  subst hr; subst hn
  funext q
  unfold putR putF
  by_cases h1 : q = a + 1 + 2 * k
  · rw [if_pos h1, if_pos (by omega), h1, show a + 1 + 2 * k - a = 1 + 2 * k by omega]
    unfold flC
    rw [if_neg (by omega), if_pos (by omega), show (1 + 2 * k - 1) / 2 = k by omega, show a + (1 + 2 * k) + 1 = a + 1 + 2 * k + 1 by omega]
    simp [upR, up2_at]
  · by_cases h2 : q = a + 1 + 2 * k + 1
    · rw [if_neg h1, if_pos h2, if_pos (by omega), h2, show a + 1 + 2 * k + 1 - a = 2 + 2 * k by omega]
      unfold flC
      rw [if_neg (by omega), if_neg (by omega), show (2 + 2 * k - 2) / 2 = k by omega]
      have e : upR fl k sz f k = f := by
        unfold upR
        rw [up2_nk (by omega), up1_at]
      rw [e]
    · rw [if_neg h1, if_neg h2]
      by_cases hq : a ≤ q ∧ q < a + 17
      · rw [if_pos hq]
        have h3 := h (q - a) (by omega)
        rw [show a + (q - a) = q by omega] at h3
        rw [h3]
        generalize hj : q - a = j at *
        unfold flC
        by_cases hj0 : j = 0
        · rw [if_pos hj0, if_pos hj0]
          have e : ∀ i, upR fl k sz f 9 i = fl 9 i := by
            intro i
            unfold upR
            rw [up2_nk (by omega), up1_ne (by omega)]
          simp only [flO, e]
        · rw [if_neg hj0, if_neg hj0]
          by_cases hp : j % 2 = 1
          · rw [if_pos hp, if_pos hp]
            have e : upR fl k sz f 8 ((j - 1) / 2) = fl 8 ((j - 1) / 2) := by
              unfold upR
              rw [up2_ni (by omega), up1_ne (by omega)]
            rw [e]
          · rw [if_neg hp, if_neg hp]
            have e : upR fl k sz f ((j - 2) / 2) = fl ((j - 2) / 2) := by
              unfold upR
              rw [up2_nk (by omega), up1_ne (by omega)]
            rw [e]
      · rw [if_neg hq]
theorem putF_fld {g : GC} {M : HM} {a : Nat} {fl : FL} (h : FlatAt g M a fl) (j : Nat) {v : Int32} {fs : List Value} (hfs : fs = flO a (up2 fl 9 j v)) : upM M a (.inr (2, fs)) = putF g M a (up2 fl 9 j v) := by
  subst hfs
  funext q
  unfold upM putF
  by_cases h1 : q = a
  · rw [if_pos h1, if_pos (by omega), h1, Nat.sub_self]
    rfl
  · rw [if_neg h1]
    by_cases hq : a ≤ q ∧ q < a + 17
    · rw [if_pos hq]
      have h3 := h (q - a) (by omega)
      rw [show a + (q - a) = q by omega] at h3
      rw [h3]
      generalize hj : q - a = i at *
      have hi0 : i ≠ 0 := by omega
      have h8 : up2 fl 9 j v 8 = fl 8 := up2_nk (by omega)
      have h9 : ∀ z, z < 8 → up2 fl 9 j v z = fl z := fun z hz => up2_nk (by omega)
      unfold flC
      rw [if_neg hi0, if_neg hi0, h8, h9 ((i - 2) / 2) (by omega)]
    · rw [if_neg hq]
-- the class: flats 0 (flat), 1 (before), 2 (saved), 3 to 10 (kept); row 11: 0 numbers, 1 signs of the text, 2 signs of the line, 3 the scalars:
-- 0 numbers' size, 1 text length, 2 position, 3 kind, 4 line length, 5 history size, 6 next, 7 isSaved, 8 faultAt, 9 commandIndex, 10 reasonKind, 11 reasonDetail, 12 reasonCommand
abbrev CS : Type := Nat → FL
def upC (cs : CS) (k : Nat) (fl : FL) : CS := fun j => if j = k then fl else cs j
def upS (cs : CS) (j : Nat) (v : Int32) : CS := upC cs 11 (up2 (cs 11) 3 j v)
def upA (cs : CS) (k : Nat) (f : Nat → Int32) : CS := upC cs 11 (up1 (cs 11) k f)
theorem upC_at {cs : CS} {k : Nat} {fl : FL} : upC cs k fl k = fl := by simp [upC]
theorem upC_ne {cs : CS} {k j : Nat} {fl : FL} (h : j ≠ k) : upC cs k fl j = cs j := by simp [upC, h]
theorem upC_upC {cs : CS} {k : Nat} {fl fl2 : FL} : upC (upC cs k fl) k fl2 = upC cs k fl2 := by
  funext j
  unfold upC
  by_cases h : j = k
  · simp [h]
  · simp [h]
def fad (x k : Nat) : Nat := if k < 3 then x + 1 + 17 * k else x + 3 + 17 * k
def obO (x : Nat) (cs : CS) : List Value := [.ref (x + 1), .ref (x + 18), .ref (x + 35), .ref (x + 52), .ref (x + 190), .ref (x + 194), .int (cs 11 3 7), .int (cs 11 3 8), .int (cs 11 3 9), .int (cs 11 3 10), .int (cs 11 3 11), .int (cs 11 3 12)]
def hiO (x : Nat) (cs : CS) : List Value := [.ref (x + 53), .int (cs 11 3 5), .int (cs 11 3 6)]
def teO (x : Nat) (cs : CS) : List Value := [.ref (x + 191), .ref (x + 193), .int (cs 11 3 1), .int (cs 11 3 2), .int (cs 11 3 3)]
def liO (x : Nat) (cs : CS) : List Value := [.ref (x + 195), .int (cs 11 3 4)]
def hiA (x : Nat) : Nat → Option Nat := fun i => if i < 8 then some (x + 54 + 17 * i) else none
def clC (g : GC) (x : Nat) (cs : CS) (j : Nat) : va_E :=
  if j = 0 then .inr (7, obO x cs) else if j < 52 then flC g (x + 1 + 17 * ((j - 1) / 17)) (cs ((j - 1) / 17)) ((j - 1) % 17) else if j = 52 then .inr (3, hiO x cs) else if j = 53 then .inl (gF g, 8, .inr (.inr (.inr (.inr (hiA x)))))
  else if j < 190 then flC g (x + 54 + 17 * ((j - 54) / 17)) (cs (3 + (j - 54) / 17)) ((j - 54) % 17) else if j = 190 then .inr (6, teO x cs) else if j = 191 then .inr (5, [.ref (x + 192), .int (cs 11 3 0)]) else if j = 192 then .inl (gI g, 3, .inl (cs 11 0)) else if j = 193 then .inl (gC g, 60, .inl (cs 11 1)) else if j = 194 then .inr (4, liO x cs) else .inl (gC g, 79, .inl (cs 11 2))
def ClsAt (g : GC) (M : HM) (x : Nat) (cs : CS) : Prop := ∀ j, j < 196 → M (x + j) = some (clC g x cs j)
def putC (g : GC) (M : HM) (x : Nat) (cs : CS) : HM := fun q => if x ≤ q ∧ q < x + 196 then some (clC g x cs (q - x)) else M q
theorem ClsAt.put {g : GC} {M : HM} {x : Nat} {cs : CS} : ClsAt g (putC g M x cs) x cs := by
  intro j hj
  unfold putC
  rw [if_pos (by omega), show x + j - x = j by omega]
theorem putC_putC {g : GC} {M : HM} {x : Nat} {cs cs2 : CS} : putC g (putC g M x cs) x cs2 = putC g M x cs2 := by
  funext q
  unfold putC
  by_cases h : x ≤ q ∧ q < x + 196
  · rw [if_pos h, if_pos h]
  · rw [if_neg h, if_neg h, if_neg h]
theorem putC_same {g : GC} {M : HM} {x : Nat} {cs : CS} (h : ClsAt g M x cs) : putC g M x cs = M := by
  funext q
  unfold putC
  by_cases hq : x ≤ q ∧ q < x + 196
  · rw [if_pos hq, ← h (q - x) (by omega), show x + (q - x) = q by omega]
  · rw [if_neg hq]
/-- a change of M that makes the picture of cs2 out of that of cs -/
theorem putC_of {g : GC} {M M2 : HM} {x : Nat} {cs2 : CS} (h1 : ∀ j, j < 196 → M2 (x + j) = some (clC g x cs2 j)) (h2 : ∀ q, ¬ (x ≤ q ∧ q < x + 196) → M2 q = M q) : M2 = putC g M x cs2 := by
  funext q
  unfold putC
  by_cases hq : x ≤ q ∧ q < x + 196
  · rw [if_pos hq, ← h1 (q - x) (by omega), show x + (q - x) = q by omega]
  · rw [if_neg hq, h2 q hq]
theorem ClsAt.o {g : GC} {M : HM} {x : Nat} {cs : CS} (h : ClsAt g M x cs) : M x = some (.inr (7, obO x cs)) := h 0 (by omega)
theorem ClsAt.hi {g : GC} {M : HM} {x : Nat} {cs : CS} (h : ClsAt g M x cs) : M (x + 52) = some (.inr (3, hiO x cs)) := h 52 (by omega)
theorem ClsAt.ka {g : GC} {M : HM} {x : Nat} {cs : CS} (h : ClsAt g M x cs) : M (x + 53) = some (.inl (gF g, 8, .inr (.inr (.inr (.inr (hiA x)))))) := h 53 (by omega)
theorem ClsAt.te {g : GC} {M : HM} {x : Nat} {cs : CS} (h : ClsAt g M x cs) : M (x + 190) = some (.inr (6, teO x cs)) := h 190 (by omega)
theorem ClsAt.nu {g : GC} {M : HM} {x : Nat} {cs : CS} (h : ClsAt g M x cs) : RowAt g M (x + 191) 3 (cs 11 3 0) (cs 11 0) := ⟨h 191 (by omega), h 192 (by omega)⟩
theorem ClsAt.sg {g : GC} {M : HM} {x : Nat} {cs : CS} (h : ClsAt g M x cs) : M (x + 193) = some (.inl (gC g, 60, .inl (cs 11 1))) := h 193 (by omega)
theorem ClsAt.li {g : GC} {M : HM} {x : Nat} {cs : CS} (h : ClsAt g M x cs) : M (x + 194) = some (.inr (4, liO x cs)) := h 194 (by omega)
theorem ClsAt.ls {g : GC} {M : HM} {x : Nat} {cs : CS} (h : ClsAt g M x cs) : M (x + 195) = some (.inl (gC g, 79, .inl (cs 11 2))) := h 195 (by omega)
theorem ClsAt.flat {g : GC} {M : HM} {x : Nat} {cs : CS} (h : ClsAt g M x cs) {k a : Nat} (hk : k < 11) (ha : a = fad x k) : FlatAt g M a (cs k) := by
  subst ha
  intro j hj
  unfold fad
  by_cases hk3 : k < 3
  · rw [if_pos hk3]
    have h1 := h (1 + 17 * k + j) (by omega)
    rw [show x + 1 + 17 * k + j = x + (1 + 17 * k + j) by omega, h1]
    unfold clC
    rw [if_neg (by omega), if_pos (by omega), show (1 + 17 * k + j - 1) / 17 = k by omega, show (1 + 17 * k + j - 1) % 17 = j by omega]
  · rw [if_neg hk3]
    have h1 := h (3 + 17 * k + j) (by omega)
    rw [show x + 3 + 17 * k + j = x + (3 + 17 * k + j) by omega, h1]
    unfold clC
    rw [if_neg (by omega), if_neg (by omega), if_neg (by omega), if_neg (by omega), if_pos (by omega), show (3 + 17 * k + j - 54) / 17 = k - 3 by omega, show (3 + 17 * k + j - 54) % 17 = j by omega, show x + 54 + 17 * (k - 3) = x + 3 + 17 * k by omega, show 3 + (k - 3) = k by omega]
theorem ClsAt.nk {g : GC} {x : Nat} {cs : CS} {k : Nat} {fl : FL} (hk : k < 11) {j : Nat} (hj : j < 196) (h : ¬ (fad x k ≤ x + j ∧ x + j < fad x k + 17)) : clC g x (upC cs k fl) j = clC g x cs j := by
  have h11 : upC cs k fl 11 = cs 11 := upC_ne (by omega)
  unfold clC obO hiO teO liO
  rw [h11]
  unfold fad at h
  by_cases h0 : j = 0
  · rw [if_pos h0, if_pos h0]
  · rw [if_neg h0, if_neg h0]
    by_cases h1 : j < 52
    · rw [if_pos h1, if_pos h1, upC_ne (by split at h <;> omega)]
    · rw [if_neg h1, if_neg h1]
      by_cases h2 : j < 54
      · by_cases h3 : j = 52
        · rw [if_pos h3, if_pos h3]
        · rw [if_neg h3, if_neg h3, if_pos (by omega), if_pos (by omega)]
      · have n52 : ¬ j = 52 := by omega
        have n53 : ¬ j = 53 := by omega
        rw [if_neg n52, if_neg n52, if_neg n53, if_neg n53]
        by_cases h4 : j < 190
        · rw [if_pos h4, if_pos h4, upC_ne (by split at h <;> omega)]
        · rw [if_neg h4, if_neg h4]
theorem putC_flat {g : GC} {M : HM} {x : Nat} {cs : CS} (h : ClsAt g M x cs) {k a : Nat} {fl : FL} (hk : k < 11) (ha : a = fad x k) : putF g M a fl = putC g M x (upC cs k fl) := by
  have hF : FlatAt g (putC g M x (upC cs k fl)) a fl := by
    have h1 := (ClsAt.put (g := g) (M := M) (x := x) (cs := upC cs k fl)).flat hk ha
    rwa [upC_at] at h1
  refine putC_of (fun j hj => ?_) (fun q hq => ?_)
  · by_cases hr : a ≤ x + j ∧ x + j < a + 17
    · have h1 := hF (x + j - a) (by omega)
      rw [show a + (x + j - a) = x + j by omega] at h1
      have h2 := (ClsAt.put (g := g) (M := M) (x := x) (cs := upC cs k fl)) j hj
      unfold putF
      rw [if_pos hr, ← h1, h2]
    · unfold putF
      rw [if_neg hr, h j hj, ClsAt.nk hk hj (by rw [← ha]; exact hr)]
  · unfold putF
    rw [if_neg ?_]
    subst ha
    unfold fad
    split <;> omega
theorem clC_11 {g : GC} {x : Nat} {cs : CS} {fl : FL} {j : Nat} (h : ∀ i, j = i → i ≠ 0 ∧ i ≠ 52 ∧ i < 190) : clC g x (upC cs 11 fl) j = clC g x cs j := by
  obtain ⟨h0, h52, h190⟩ := h j rfl
  unfold clC
  rw [if_neg h0, if_neg h0]
  by_cases h1 : j < 52
  · rw [if_pos h1, if_pos h1, upC_ne (by omega)]
  · rw [if_neg h1, if_neg h1, if_neg h52, if_neg h52]
    by_cases h3 : j = 53
    · rw [if_pos h3, if_pos h3]
    · rw [if_neg h3, if_neg h3, if_pos h190, if_pos h190, upC_ne (by omega)]
/-- a cell of the class that holds scalars or signs is written -/
theorem putC_cell {g : GC} {M : HM} {x : Nat} {cs : CS} (h : ClsAt g M x cs) {i q : Nat} {fl : FL} {e : va_E} (hi : i < 196) (hq : q = x + i) (he : e = clC g x (upC cs 11 fl) i) (ho : ∀ j, j < 196 → j ≠ i → (j = 0 ∨ j = 52 ∨ 190 ≤ j) → clC g x (upC cs 11 fl) j = clC g x cs j) : upM M q e = putC g M x (upC cs 11 fl) := by
  subst hq; subst he
  refine putC_of (fun j hj => ?_) (fun q hq => ?_)
  · by_cases hji : j = i
    · rw [hji, upM_at]
    · rw [upM_ne (by omega), h j hj]
      by_cases hs : j = 0 ∨ j = 52 ∨ 190 ≤ j
      · rw [ho j hj hji hs]
      · rw [clC_11 (fun i hi2 => by omega)]
  · rw [upM_ne (by omega)]
theorem upS_s {cs : CS} {j i : Nat} {v : Int32} (h : i ≠ j) : upS cs j v 11 3 i = cs 11 3 i := by
  unfold upS
  rw [upC_at, up2_ni h]
theorem upS_r {cs : CS} {j k : Nat} {v : Int32} (h : k ≠ 3) : upS cs j v 11 k = cs 11 k := by
  unfold upS
  rw [upC_at, up2_nk h]
theorem upS_f {cs : CS} {j k : Nat} {v : Int32} (h : k ≠ 11) : upS cs j v k = cs k := upC_ne h
theorem putC_ob {g : GC} {M : HM} {x : Nat} {cs : CS} (h : ClsAt g M x cs) (j : Nat) {v : Int32} (hj : 7 ≤ j) {fs : List Value} (hfs : fs = obO x (upS cs j v)) : upM M x (.inr (7, fs)) = putC g M x (upS cs j v) := by
  subst hfs
  refine putC_cell h (i := 0) (by omega) rfl rfl (fun i hi hne hor => ?_)
  have e : ∀ z, z < 7 → upS cs j v 11 3 z = cs 11 3 z := fun z hz => upS_s (by omega)
  show clC g x (upS cs j v) i = _
  unfold clC hiO teO liO
  rw [if_neg hne, if_neg hne, e 0 (by omega), e 1 (by omega), e 2 (by omega), e 3 (by omega), e 4 (by omega), e 5 (by omega), e 6 (by omega), upS_r (k := 0) (by omega), upS_r (k := 1) (by omega), upS_r (k := 2) (by omega)]
  have n1 : ¬ i < 52 := by omega
  rw [if_neg n1, if_neg n1]
  have n2 : i = 52 ∨ (¬ i = 52 ∧ ¬ i = 53 ∧ ¬ i < 190) := by omega
  rcases n2 with n2 | ⟨n2, n3, n4⟩
  · rw [if_pos n2, if_pos n2]
  · rw [if_neg n2, if_neg n2, if_neg n3, if_neg n3, if_neg n4, if_neg n4]
theorem putC_hi {g : GC} {M : HM} {x : Nat} {cs : CS} (h : ClsAt g M x cs) (j : Nat) {v : Int32} (hj : j = 5 ∨ j = 6) {fs : List Value} (hfs : fs = hiO x (upS cs j v)) : upM M (x + 52) (.inr (3, fs)) = putC g M x (upS cs j v) := by
  subst hfs
  refine putC_cell h (i := 52) (by omega) rfl rfl (fun i hi hne hor => ?_)
  have e : ∀ z, z ≠ 5 → z ≠ 6 → upS cs j v 11 3 z = cs 11 3 z := fun z hz _ => upS_s (by omega)
  show clC g x (upS cs j v) i = _
  unfold clC obO teO liO
  rw [if_neg hne, if_neg hne, e 0 (by omega) (by omega), e 1 (by omega) (by omega), e 2 (by omega) (by omega), e 3 (by omega) (by omega), e 4 (by omega) (by omega), e 7 (by omega) (by omega), e 8 (by omega) (by omega), e 9 (by omega) (by omega), e 10 (by omega) (by omega), e 11 (by omega) (by omega), e 12 (by omega) (by omega), upS_r (k := 0) (by omega), upS_r (k := 1) (by omega), upS_r (k := 2) (by omega)]
  have n2 : i = 0 ∨ (¬ i = 0 ∧ ¬ i < 52 ∧ ¬ i = 53 ∧ ¬ i < 190) := by omega
  rcases n2 with n2 | ⟨n2, n3, n4, n5⟩
  · rw [if_pos n2, if_pos n2]
  · rw [if_neg n2, if_neg n2, if_neg n3, if_neg n3, if_neg n4, if_neg n4, if_neg n5, if_neg n5]
theorem putC_te {g : GC} {M : HM} {x : Nat} {cs : CS} (h : ClsAt g M x cs) (j : Nat) {v : Int32} (hj : 1 ≤ j ∧ j ≤ 3) {fs : List Value} (hfs : fs = teO x (upS cs j v)) : upM M (x + 190) (.inr (6, fs)) = putC g M x (upS cs j v) := by
  subst hfs
  refine putC_cell h (i := 190) (by omega) rfl rfl (fun i hi hne hor => ?_)
  have e : ∀ z, z < 1 ∨ 3 < z → upS cs j v 11 3 z = cs 11 3 z := fun z hz => upS_s (by omega)
  show clC g x (upS cs j v) i = _
  unfold clC obO hiO liO
  rw [if_neg hne, if_neg hne, e 0 (by omega), e 4 (by omega), e 5 (by omega), e 6 (by omega), e 7 (by omega), e 8 (by omega), e 9 (by omega), e 10 (by omega), e 11 (by omega), e 12 (by omega), upS_r (k := 0) (by omega), upS_r (k := 1) (by omega), upS_r (k := 2) (by omega)]
  have n2 : i = 0 ∨ i = 52 ∨ (¬ i = 0 ∧ ¬ i = 52 ∧ ¬ i < 52 ∧ ¬ i = 53 ∧ ¬ i < 190) := by omega
  rcases n2 with n2 | n2 | ⟨n2, n6, n3, n4, n5⟩
  · rw [if_pos n2, if_pos n2]
  · subst n2; rfl
  · rw [if_neg n2, if_neg n2, if_neg n3, if_neg n3, if_neg n6, if_neg n6, if_neg n4, if_neg n4, if_neg n5, if_neg n5]
theorem putC_li {g : GC} {M : HM} {x : Nat} {cs : CS} (h : ClsAt g M x cs) {v : Int32} {fs : List Value} (hfs : fs = liO x (upS cs 4 v)) : upM M (x + 194) (.inr (4, fs)) = putC g M x (upS cs 4 v) := by
  subst hfs
  refine putC_cell h (i := 194) (by omega) rfl rfl (fun i hi hne hor => ?_)
  have e : ∀ z, z ≠ 4 → upS cs 4 v 11 3 z = cs 11 3 z := fun z hz => upS_s hz
  show clC g x (upS cs 4 v) i = _
  unfold clC obO hiO teO
  rw [if_neg hne, if_neg hne, e 0 (by omega), e 1 (by omega), e 2 (by omega), e 3 (by omega), e 5 (by omega), e 6 (by omega), e 7 (by omega), e 8 (by omega), e 9 (by omega), e 10 (by omega), e 11 (by omega), e 12 (by omega), upS_r (k := 0) (by omega), upS_r (k := 1) (by omega), upS_r (k := 2) (by omega)]
  have n2 : i = 0 ∨ i = 52 ∨ (¬ i = 0 ∧ ¬ i = 52 ∧ ¬ i < 52 ∧ ¬ i = 53 ∧ ¬ i < 190) := by omega
  rcases n2 with n2 | n2 | ⟨n2, n6, n3, n4, n5⟩
  · rw [if_pos n2, if_pos n2]
  · subst n2; rfl
  · rw [if_neg n2, if_neg n2, if_neg n3, if_neg n3, if_neg n6, if_neg n6, if_neg n4, if_neg n4, if_neg n5, if_neg n5]
theorem upA_s {cs : CS} {k i : Nat} {f : Nat → Int32} (h : k ≠ 3) : upA cs k f 11 3 i = cs 11 3 i := by
  unfold upA
  rw [upC_at, up1_ne (by omega)]
theorem upA_r {cs : CS} {k j : Nat} {f : Nat → Int32} (h : j ≠ k) : upA cs k f 11 j = cs 11 j := by
  unfold upA
  rw [upC_at, up1_ne h]
theorem upA_at {cs : CS} {k : Nat} {f : Nat → Int32} : upA cs k f 11 k = f := by
  unfold upA
  rw [upC_at, up1_at]
theorem upA_f {cs : CS} {k j : Nat} {f : Nat → Int32} (h : j ≠ 11) : upA cs k f j = cs j := upC_ne h
theorem putC_sg {g : GC} {M : HM} {x : Nat} {cs : CS} (h : ClsAt g M x cs) {f : Nat → Int32} : upM M (x + 193) (.inl (gC g, 60, .inl f)) = putC g M x (upA cs 1 f) := by
  refine putC_cell h (i := 193) (by omega) rfl (by show _ = (Sum.inl (gC g, 60, Sum.inl (upA cs 1 f 11 1)) : va_E); rw [upA_at]) (fun i hi hne hor => ?_)
  show clC g x (upA cs 1 f) i = _
  have e : upA cs 1 f 11 3 = cs 11 3 := upA_r (by omega)
  unfold clC obO hiO teO liO
  rw [e, upA_r (j := 0) (by omega), upA_r (j := 2) (by omega)]
  have n2 : i = 0 ∨ i = 52 ∨ (¬ i = 0 ∧ ¬ i = 52 ∧ ¬ i < 52 ∧ ¬ i = 53 ∧ ¬ i < 190) := by omega
  rcases n2 with n2 | n2 | ⟨n2, n6, n3, n4, n5⟩
  · rw [if_pos n2, if_pos n2]
  · subst n2; rfl
  · rw [if_neg n2, if_neg n2, if_neg n3, if_neg n3, if_neg n6, if_neg n6, if_neg n4, if_neg n4, if_neg n5, if_neg n5, if_neg hne, if_neg hne]
theorem putC_ls {g : GC} {M : HM} {x : Nat} {cs : CS} (h : ClsAt g M x cs) {f : Nat → Int32} : upM M (x + 195) (.inl (gC g, 79, .inl f)) = putC g M x (upA cs 2 f) := by
  refine putC_cell h (i := 195) (by omega) rfl (by show _ = (Sum.inl (gC g, 79, Sum.inl (upA cs 2 f 11 2)) : va_E); rw [upA_at]) (fun i hi hne hor => ?_)
  show clC g x (upA cs 2 f) i = _
  have e : upA cs 2 f 11 3 = cs 11 3 := upA_r (by omega)
  unfold clC obO hiO teO liO
  rw [e, upA_r (j := 0) (by omega), upA_r (j := 1) (by omega)]
  have n2 : i = 0 ∨ i = 52 ∨ (¬ i = 0 ∧ ¬ i = 52 ∧ ¬ i < 52 ∧ ¬ i = 53 ∧ ¬ i < 190 ∧ (i = 190 ∨ i = 191 ∨ i = 192 ∨ i = 193 ∨ i = 194)) := by omega
  rcases n2 with n2 | n2 | ⟨n2, n6, n3, n4, n5, n7⟩
  · rw [if_pos n2, if_pos n2]
  · subst n2; rfl
  · rw [if_neg n2, if_neg n2, if_neg n3, if_neg n3, if_neg n6, if_neg n6, if_neg n4, if_neg n4, if_neg n5, if_neg n5]
    rcases n7 with rfl | rfl | rfl | rfl | rfl <;> rfl
def upN (cs : CS) (sz : Int32) (f : Nat → Int32) : CS := upC cs 11 (up2 (up1 (cs 11) 0 f) 3 0 sz)
theorem putC_nu {g : GC} {M : HM} {x : Nat} {cs : CS} (h : ClsAt g M x cs) {sz : Int32} {f : Nat → Int32} : putR g M (x + 191) 3 sz f = putC g M x (upN cs sz f) := by
  have es : ∀ i, i ≠ 0 → upN cs sz f 11 3 i = cs 11 3 i := by
    intro i hi
    unfold upN
    rw [upC_at, up2_ni hi, up1_ne (by omega)]
  have er : ∀ k, k ≠ 0 → k ≠ 3 → upN cs sz f 11 k = cs 11 k := by
    intro k h0 h3
    unfold upN
    rw [upC_at, up2_nk h3, up1_ne h0]
  have e0 : upN cs sz f 11 3 0 = sz := by
    unfold upN
    rw [upC_at, up2_at]
  have ef : upN cs sz f 11 0 = f := by
    unfold upN
    rw [upC_at, up2_nk (by omega), up1_at]
  refine putC_of (fun i hi => ?_) (fun q hq => ?_)
  · unfold putR
    by_cases h1 : i = 191
    · subst h1
      rw [if_pos rfl]
      show _ = some (Sum.inr (5, [Value.ref (x + 192), Value.int (upN cs sz f 11 3 0)]) : va_E)
      rw [e0]
    · rw [if_neg (by omega)]
      by_cases h2 : i = 192
      · subst h2
        rw [if_pos rfl]
        show _ = some (Sum.inl (gI g, 3, Sum.inl (upN cs sz f 11 0)) : va_E)
        rw [ef]
      · rw [if_neg (by omega), h i hi]
        by_cases hs : i = 0 ∨ i = 52 ∨ 190 ≤ i
        · unfold clC obO hiO teO liO
          rw [es 1 (by omega), es 2 (by omega), es 3 (by omega), es 4 (by omega), es 5 (by omega), es 6 (by omega), es 7 (by omega), es 8 (by omega), es 9 (by omega), es 10 (by omega), es 11 (by omega), es 12 (by omega), er 1 (by omega) (by omega), er 2 (by omega) (by omega)]
          have n2 : i = 0 ∨ i = 52 ∨ (¬ i = 0 ∧ ¬ i = 52 ∧ ¬ i < 52 ∧ ¬ i = 53 ∧ ¬ i < 190 ∧ (i = 190 ∨ i = 193 ∨ i = 194 ∨ i = 195)) := by omega
          rcases n2 with n2 | n2 | ⟨n2, n6, n3, n4, n5, n7⟩
          · rw [if_pos n2, if_pos n2]
          · subst n2; rfl
          · rw [if_neg n2, if_neg n2, if_neg n3, if_neg n3, if_neg n6, if_neg n6, if_neg n4, if_neg n4, if_neg n5, if_neg n5]
            rcases n7 with rfl | rfl | rfl | rfl <;> rfl
        · show some (clC g x cs i) = some (clC g x (upC cs 11 _) i)
          rw [clC_11 (fun i hi2 => by omega)]
  · unfold putR
    rw [if_neg (by omega), if_neg (by omega)]
-- the reference: rows 0 now, 1 tried, 2 kept, 3 saved, 4 line, 5 text, 6 given; row 7: the scalars by their slots
def lenM : Nat → Nat
  | 0 => 81
  | 1 => 81
  | 2 => 648
  | 3 => 81
  | 4 => 100
  | 5 => 60
  | _ => 3
def mdO (m : Nat) (md : FL) : List Value := [.ref (m + 1), .ref (m + 2), .ref (m + 3), .int (md 7 3), .ref (m + 4), .int (md 7 5), .ref (m + 5), .int (md 7 7), .ref (m + 6), .int (md 7 9), .int (md 7 10), .int (md 7 11), .ref (m + 7), .int (md 7 13), .int (md 7 14), .int (md 7 15), .int (md 7 16), .int (md 7 17), .int (md 7 18), .int (md 7 19)]
def mdC (g : GC) (m : Nat) (md : FL) (j : Nat) : va_E := if j = 0 then .inr (8, mdO m md) else if j = 6 then .inl (gC g, 60, .inl (md 5)) else .inl (gI g, lenM (j - 1), .inl (md (j - 1)))
def MdAt (g : GC) (M : HM) (m : Nat) (md : FL) : Prop := ∀ j, j < 8 → M (m + j) = some (mdC g m md j)
def putD (g : GC) (M : HM) (m : Nat) (md : FL) : HM := fun q => if m ≤ q ∧ q < m + 8 then some (mdC g m md (q - m)) else M q
theorem MdAt.put {g : GC} {M : HM} {m : Nat} {md : FL} : MdAt g (putD g M m md) m md := by
  intro j hj
  unfold putD
  rw [if_pos (by omega), show m + j - m = j by omega]
theorem putD_putD {g : GC} {M : HM} {m : Nat} {md md2 : FL} : putD g (putD g M m md) m md2 = putD g M m md2 := by
  funext q
  unfold putD
  by_cases h : m ≤ q ∧ q < m + 8
  · rw [if_pos h, if_pos h]
  · rw [if_neg h, if_neg h, if_neg h]
theorem putD_same {g : GC} {M : HM} {m : Nat} {md : FL} (h : MdAt g M m md) : putD g M m md = M := by
  funext q
  unfold putD
  by_cases hq : m ≤ q ∧ q < m + 8
  · rw [if_pos hq, ← h (q - m) (by omega), show m + (q - m) = q by omega]
  · rw [if_neg hq]
theorem MdAt.o {g : GC} {M : HM} {m : Nat} {md : FL} (h : MdAt g M m md) : M m = some (.inr (8, mdO m md)) := h 0 (by omega)
theorem MdAt.ar {g : GC} {M : HM} {m : Nat} {md : FL} (h : MdAt g M m md) (k : Nat) {q n : Nat} (hk : k < 7) (h5 : k ≠ 5) (hq : q = m + 1 + k) (hn : n = lenM k) : M q = some (.inl (gI g, n, .inl (md k))) := by
  subst hq; subst hn
  rw [show m + 1 + k = m + (k + 1) by omega, h (k + 1) (by omega)]
  unfold mdC
  rw [if_neg (by omega), if_neg (by omega), Nat.add_sub_cancel]
theorem MdAt.tx {g : GC} {M : HM} {m : Nat} {md : FL} (h : MdAt g M m md) : M (m + 6) = some (.inl (gC g, 60, .inl (md 5))) := h 6 (by omega)
theorem putD_ar {g : GC} {M : HM} {m : Nat} {md : FL} (h : MdAt g M m md) (k : Nat) {q n : Nat} {f : Nat → Int32} (hk : k < 7) (h5 : k ≠ 5) (hq : q = m + 1 + k) (hn : n = lenM k) : upM M q (.inl (gI g, n, .inl f)) = putD g M m (up1 md k f) := by
  subst hq; subst hn
  funext q
  unfold upM putD
  by_cases h1 : q = m + 1 + k
  · rw [if_pos h1, if_pos (by omega), h1, show m + 1 + k - m = k + 1 by omega]
    unfold mdC
    rw [if_neg (by omega), if_neg (by omega), Nat.add_sub_cancel, up1_at]
  · rw [if_neg h1]
    by_cases hq : m ≤ q ∧ q < m + 8
    · rw [if_pos hq]
      have h3 := h (q - m) (by omega)
      rw [show m + (q - m) = q by omega] at h3
      rw [h3]
      generalize hj : q - m = j at *
      have e7 : up1 md k f 7 = md 7 := up1_ne (by omega)
      unfold mdC mdO
      rw [e7, up1_ne (k := k) (j := 5) (by omega)]
      by_cases hj0 : j = 0
      · rw [if_pos hj0, if_pos hj0]
      · rw [if_neg hj0, if_neg hj0]
        by_cases hj6 : j = 6
        · rw [if_pos hj6, if_pos hj6]
        · rw [if_neg hj6, if_neg hj6, up1_ne (by omega)]
    · rw [if_neg hq]
theorem putD_tx {g : GC} {M : HM} {m : Nat} {md : FL} (h : MdAt g M m md) {f : Nat → Int32} : upM M (m + 6) (.inl (gC g, 60, .inl f)) = putD g M m (up1 md 5 f) := by
  funext q
  unfold upM putD
  by_cases h1 : q = m + 6
  · rw [if_pos h1, if_pos (by omega), h1, show m + 6 - m = 6 by omega]
    rfl
  · rw [if_neg h1]
    by_cases hq : m ≤ q ∧ q < m + 8
    · rw [if_pos hq]
      have h3 := h (q - m) (by omega)
      rw [show m + (q - m) = q by omega] at h3
      rw [h3]
      generalize hj : q - m = j at *
      have e7 : up1 md 5 f 7 = md 7 := up1_ne (by omega)
      have hj6 : j ≠ 6 := by omega
      unfold mdC mdO
      rw [e7, if_neg hj6, if_neg hj6]
      by_cases hj0 : j = 0
      · rw [if_pos hj0, if_pos hj0]
      · rw [if_neg hj0, if_neg hj0, up1_ne (by omega)]
    · rw [if_neg hq]
theorem putD_sc {g : GC} {M : HM} {m : Nat} {md : FL} (h : MdAt g M m md) (j : Nat) {v : Int32} {fs : List Value} (hfs : fs = mdO m (up2 md 7 j v)) : upM M m (.inr (8, fs)) = putD g M m (up2 md 7 j v) := by
  subst hfs
  funext q
  unfold upM putD
  by_cases h1 : q = m
  · rw [if_pos h1, if_pos (by omega), h1, Nat.sub_self]
    rfl
  · rw [if_neg h1]
    by_cases hq : m ≤ q ∧ q < m + 8
    · rw [if_pos hq]
      have h3 := h (q - m) (by omega)
      rw [show m + (q - m) = q by omega] at h3
      rw [h3]
      generalize hj : q - m = i at *
      have hi0 : i ≠ 0 := by omega
      unfold mdC
      rw [if_neg hi0, if_neg hi0, up2_nk (q := 5) (by omega), up2_nk (q := i - 1) (by omega)]
    · rw [if_neg hq]
theorem putC_out {g : GC} {M : HM} {x q : Nat} {cs : CS} (h : ¬ (x ≤ q ∧ q < x + 196)) : putC g M x cs q = M q := by unfold putC; rw [if_neg h]
theorem putD_out {g : GC} {M : HM} {m q : Nat} {md : FL} (h : ¬ (m ≤ q ∧ q < m + 8)) : putD g M m md q = M q := by unfold putD; rw [if_neg h]
theorem ClsAt.far {g : GC} {M M2 : HM} {x : Nat} {cs : CS} (h : ClsAt g M x cs) (hq : ∀ q, x ≤ q → q < x + 196 → M2 q = M q) : ClsAt g M2 x cs := fun j hj => by rw [hq _ (by omega) (by omega), h j hj]
theorem MdAt.far {g : GC} {M M2 : HM} {m : Nat} {md : FL} (h : MdAt g M m md) (hq : ∀ q, m ≤ q → q < m + 8 → M2 q = M q) : MdAt g M2 m md := fun j hj => by rw [hq _ (by omega) (by omega), h j hj]
