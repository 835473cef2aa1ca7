/-! THE REFERENCE: its words, its contracts -/
section KMD
variable {p : Program} {l : Launch} {e : Env} {R : Room} {s : State} {m : MethodId} {args : Array Value} {below : List Frame} {meth : Method} {c : Code} {H : Heap} {locs : List Loc} {cells slots : Nat} {Q : State → Prop}
variable {cc : ByteArray} {pc nL : Nat} {ls : Array Slot} {rest : List Value} {g : GC} {M : HM} {own : String} {a : Nat}
theorem k_ialdN (hc : Cx g p l s m args meth c cc nL own) (hM : hR g M H) {n : Nat} {f : Nat → Int32} (he : M a = some (.inl (gI g, n, .inl f))) {i : Int32} {X : Nat} (hi : i = nI X) (hX : X < n) (h31 : n < 2 ^ 31) (hdg : decode cc pc = .ok (.iaload, 1))
    (kk : W p l e R s m args below meth c H locs cells slots Q (F0 m (pc + 1) ls (.int (f X) :: rest))) : W p l e R s m args below meth c H locs cells slots Q (F0 m pc ls (.int i :: .ref a :: rest)) := by
  subst hi
  refine k_iald hc hM he (vp_in_nI hX h31) hdg ?_
  rw [nI_clamp (by omega)]
  exact kk
theorem k_caldN (hc : Cx g p l s m args meth c cc nL own) (hM : hR g M H) {n : Nat} {f : Nat → Int32} (he : M a = some (.inl (gC g, n, .inl f))) {i : Int32} {X : Nat} (hi : i = nI X) (hX : X < n) (h31 : n < 2 ^ 31) (hdg : decode cc pc = .ok (.caload, 1))
    (kk : W p l e R s m args below meth c H locs cells slots Q (F0 m (pc + 1) ls (.int (f X) :: rest))) : W p l e R s m args below meth c H locs cells slots Q (F0 m pc ls (.int i :: .ref a :: rest)) := by
  subst hi
  refine k_cald hc hM he (vp_in_nI hX h31) hdg ?_
  rw [nI_clamp (by omega)]
  exact kk
theorem k_iastN (hc : Cx g p l s m args meth c cc nL own) (hM : hR g M H) (hS : va_S (gA g) s.heap H locs) {n : Nat} {f : Nat → Int32} (he : M a = some (.inl (gI g, n, .inl f))) {i x : Int32} {X : Nat} (hi : i = nI X) (hX : X < n) (h31 : n < 2 ^ 31) (hdg : decode cc pc = .ok (.iastore, 1))
    (kk : ∀ (H1 : Heap) (locs1 : List Loc), hR g (upM M a (.inl (gI g, n, .inl (upd f X x)))) H1 → va_S (gA g) s.heap H1 locs1 → W p l e R s m args below meth c H1 locs1 cells slots Q (F0 m (pc + 1) ls rest)) : W p l e R s m args below meth c H locs cells slots Q (F0 m pc ls (.int x :: .int i :: .ref a :: rest)) := by
  subst hi
  refine k_iast hc hM hS he (vp_in_nI hX h31) hdg ?_
  rw [nI_clamp (by omega)]
  exact kk
theorem k_castN (hc : Cx g p l s m args meth c cc nL own) (hM : hR g M H) (hS : va_S (gA g) s.heap H locs) {n : Nat} {f : Nat → Int32} (he : M a = some (.inl (gC g, n, .inl f))) {i x : Int32} (hx : vp_nar .char x = x) {X : Nat} (hi : i = nI X) (hX : X < n) (h31 : n < 2 ^ 31) (hdg : decode cc pc = .ok (.castore, 1))
    (kk : ∀ (H1 : Heap) (locs1 : List Loc), hR g (upM M a (.inl (gC g, n, .inl (upd f X x)))) H1 → va_S (gA g) s.heap H1 locs1 → W p l e R s m args below meth c H1 locs1 cells slots Q (F0 m (pc + 1) ls rest)) : W p l e R s m args below meth c H locs cells slots Q (F0 m pc ls (.int x :: .int i :: .ref a :: rest)) := by
  subst hi
  refine k_cast hc hM hS he hx (vp_in_nI hX h31) hdg ?_
  rw [nI_clamp (by omega)]
  exact kk
end KMD
/-- the heap shows of the arrays no more than their lengths -/
theorem hR.extD {g : GC} {M : HM} {H : Heap} {q : Nat} {md md2 : FL} (h : hR g (putD g M q md) H) (h1 : ∀ k, k < 7 → ∀ i, i < lenM k → md k i = md2 k i) (h7 : md 7 = md2 7) : hR g (putD g M q md2) H := by
  intro x e hx
  by_cases hr : q ≤ x ∧ x < q + 8
  · have hx2 : some (mdC g q md2 (x - q)) = some e := by
      have := hx
      unfold putD at this
      rwa [if_pos hr] at this
    have hx1 : putD g M q md x = some (mdC g q md (x - q)) := by unfold putD; rw [if_pos hr]
    obtain ⟨b1, b2⟩ := h x _ hx1
    refine ⟨b1, ?_⟩
    cases hx2
    generalize hj : x - q = j at *
    unfold mdC at b2 ⊢
    by_cases h0 : j = 0
    · rw [if_pos h0] at b2 ⊢
      unfold mdO at b2 ⊢
      rw [← h7]
      exact b2
    · rw [if_neg h0] at b2 ⊢
      by_cases h6 : j = 6
      · rw [if_pos h6] at b2 ⊢
        have b3 : H[x]? = some (vp_cell (gC g) (60, .inl (md 5))) := b2
        rw [vp_cell_ext (n := 60) (f' := md2 5) (fun k hk => h1 5 (by omega) k hk)] at b3
        exact b3
      · rw [if_neg h6] at b2 ⊢
        have b3 : H[x]? = some (vp_cell (gI g) (lenM (j - 1), .inl (md (j - 1)))) := b2
        rw [vp_cell_ext (f' := md2 (j - 1)) (fun k hk => h1 (j - 1) (by omega) k hk)] at b3
        exact b3
  · refine h x e ?_
    unfold putD at hx ⊢
    rw [if_neg hr] at hx ⊢
    exact hx
theorem up1_up1 {fl : FL} {k : Nat} {f f2 : Nat → Int32} : up1 (up1 fl k f) k f2 = up1 fl k f2 := by
  funext j
  unfold up1
  by_cases h : j = k
  · rw [if_pos h, if_pos h]
  · rw [if_neg h, if_neg h, if_neg h]
theorem up1_self {fl : FL} {k : Nat} : up1 fl k (fl k) = fl := by
  funext j
  by_cases h : j = k
  · rw [h, up1_at]
  · exact up1_ne h
abbrev MF : Type := Nat → Int32
/-- the first n of f, behind them g -/
def cpy (n : Nat) (f g : MF) : MF := fun i => if i < n then f i else g i
theorem cpy_s {n : Nat} {f g : MF} : upd (cpy n f g) n (f n) = cpy (n + 1) f g := by
  funext i
  unfold upd cpy
  by_cases h : i = n
  · rw [if_pos h, if_pos (by omega), h]
  · rw [if_neg h]
    by_cases h2 : i < n
    · rw [if_pos h2, if_pos (by omega)]
    · rw [if_neg h2, if_neg (by omega)]
theorem cpy_0 {f g : MF} : cpy 0 f g = g := by funext i; exact if_neg (by omega)
/-- n of f at the place a of g -/
def blk (a n : Nat) (f g : MF) : MF := fun i => if a ≤ i ∧ i < a + n then f (i - a) else g i
theorem blk_s {a n : Nat} {f g : MF} : upd (blk a n f g) (a + n) (f n) = blk a (n + 1) f g := by
  funext i
  unfold upd blk
  by_cases h : i = a + n
  · rw [if_pos h, if_pos (by omega), h, show a + n - a = n by omega]
  · rw [if_neg h]
    by_cases h2 : a ≤ i ∧ i < a + n
    · rw [if_pos h2, if_pos (by omega)]
    · rw [if_neg h2, if_neg (by omega)]
theorem blk_0 {a : Nat} {f g : MF} : blk a 0 f g = g := by funext i; exact if_neg (by omega)
-- indices
abbrev inB (v a b : Int32) : Prop := ¬ v < a ∧ ¬ b < v
abbrev okS (i : Int32) : Prop := ¬ i < 0 ∧ i < 10
abbrev okP (i : Int32) : Prop := ¬ i < 0 ∧ i < 4
abbrev okH (i : Int32) : Prop := ¬ i < 0 ∧ i < 3
abbrev okC (i : Int32) : Prop := ¬ i < 0 ∧ i < 6
abbrev okW (i : Int32) : Prop := ¬ i < 0 ∧ i < 4
abbrev okB (i : Int32) : Prop := ¬ i < 0 ∧ i < 2
theorem ok_nI {i b : Int32} {n : Nat} (hb : b.toInt = n) (h : ¬ i < 0 ∧ i < b) : ∃ j, j < n ∧ i = nI j := by
  obtain ⟨j, hj, rfl⟩ := nI_of h.1
  refine ⟨j, ?_, rfl⟩
  have := Int32.lt_iff_toInt_lt.mp h.2
  rw [nI_toInt hj, hb] at this
  omega
theorem nI_mul (a b : Nat) : nI a * nI b = nI (a * b) := (Int32.ofNat_mul a b).symm
theorem inS {i : Int32} (h : okS i) : vp_in (9 + i) 81 := by
  obtain ⟨j, hj, rfl⟩ := ok_nI (n := 10) rfl h
  rw [show (9 : Int32) + nI j = nI (9 + j) from nI_add 9 j]
  exact vp_in_nI (by omega) (by decide)
theorem inP {i w : Int32} (h : okP i) (hw : okB w) : vp_in (19 + 2 * i + w) 81 := by
  obtain ⟨j, hj, rfl⟩ := ok_nI (n := 4) rfl h
  obtain ⟨k, hk, rfl⟩ := ok_nI (n := 2) rfl hw
  rw [show (19 : Int32) + 2 * nI j + nI k = nI (19 + 2 * j + k) from by rw [show (2 : Int32) * nI j = nI (2 * j) from nI_mul 2 j, show (19 : Int32) + nI (2 * j) = nI (19 + 2 * j) from nI_add 19 _, nI_add]]
  exact vp_in_nI (by omega) (by decide)
theorem inC {i w : Int32} (h : okC i) (hw : okW w) : vp_in (57 + 4 * i + w) 81 := by
  obtain ⟨j, hj, rfl⟩ := ok_nI (n := 6) rfl h
  obtain ⟨k, hk, rfl⟩ := ok_nI (n := 4) rfl hw
  rw [show (57 : Int32) + 4 * nI j + nI k = nI (57 + 4 * j + k) from by rw [show (4 : Int32) * nI j = nI (4 * j) from nI_mul 4 j, show (57 : Int32) + nI (4 * j) = nI (57 + 4 * j) from nI_add 57 _, nI_add]]
  exact vp_in_nI (by omega) (by decide)
theorem inD {s h : Int32} (hh : okH h) (hs : okS s) : vp_in (27 + 10 * h + s) 81 := by
  obtain ⟨j, hj, rfl⟩ := ok_nI (n := 3) rfl hh
  obtain ⟨k, hk, rfl⟩ := ok_nI (n := 10) rfl hs
  rw [show (27 : Int32) + 10 * nI j + nI k = nI (27 + 10 * j + k) from by rw [show (10 : Int32) * nI j = nI (10 * j) from nI_mul 10 j, show (27 : Int32) + nI (10 * j) = nI (27 + 10 * j) from nI_add 27 _, nI_add]]
  exact vp_in_nI (by omega) (by decide)
abbrev cOk (x n : Int32) : Prop := ¬ x < 0 ∧ x ≤ n
def mOk (f : MF) : Prop := cOk (f 2) 10 ∧ cOk (f 3) 4 ∧ cOk (f 4) 3 ∧ cOk (f 5) 6
theorem mOk_of {f f2 : MF} (h : mOk f) (e : ∀ j, 2 ≤ j → j < 6 → f2 j = f j) : mOk f2 := by
  unfold mOk
  rw [e 2 (by omega) (by omega), e 3 (by omega) (by omega), e 4 (by omega) (by omega), e 5 (by omega) (by omega)]
  exact h
theorem is_ok {x n i : Int32} (h : cOk x n) (c : inB i 0 (x - 1)) : ¬ i < 0 ∧ i < n := by
  refine ⟨c.1, ?_⟩
  have h1 : 0 ≤ x.toInt := by
    rcases Int.lt_or_le x.toInt 0 with z | z
    · exact absurd (Int32.lt_iff_toInt_lt.mpr z) h.1
    · exact z
  have h2 := Int32.le_iff_toInt_le.mp h.2
  have h3 := Int32.toInt_lt x
  have h4 : (x - 1).toInt = x.toInt - 1 := by
    rw [Int32.toInt_sub]
    show (x.toInt - 1).bmod (2 ^ 32) = _
    rw [Int.bmod_eq_of_le (by omega) (by omega)]
  have h5 : i.toInt ≤ (x - 1).toInt := by
    rcases Int.lt_or_le (x - 1).toInt i.toInt with z | z
    · exact absurd (Int32.lt_iff_toInt_lt.mpr z) c.2
    · exact z
  exact Int32.lt_iff_toInt_lt.mpr (by omega)
theorem isS_ok {f : MF} {i : Int32} (h : mOk f) (c : inB i 0 (f 2 - 1)) : okS i := is_ok h.1 c
theorem isP_ok {f : MF} {i : Int32} (h : mOk f) (c : inB i 0 (f 3 - 1)) : okP i := is_ok h.2.1 c
theorem isH_ok {f : MF} {i : Int32} (h : mOk f) (c : inB i 0 (f 4 - 1)) : okH i := is_ok h.2.2.1 c
theorem isC_ok {f : MF} {i : Int32} (h : mOk f) (c : inB i 0 (f 5 - 1)) : okC i := is_ok h.2.2.2 c
theorem k_ok {x n : Int32} {k : Nat} (h : cOk x n) (c : ¬ x.toNatClampNeg ≤ k) : ¬ nI k < 0 ∧ nI k < n := by
  have h2 := k_clamp_lt x
  have h3 : (nI k).toInt = k := nI_toInt (by omega)
  have h4 := Int32.le_iff_toInt_le.mp h.2
  have h5 : x.toNatClampNeg = x.toInt.toNat := rfl
  refine ⟨nI_pos (by omega), Int32.lt_iff_toInt_lt.mpr ?_⟩
  rw [h3]
  omega
theorem kS_ok {f : MF} {k : Nat} (h : mOk f) (c : ¬ (f 2).toNatClampNeg ≤ k) : okS (nI k) := k_ok h.1 c
theorem kP_ok {f : MF} {k : Nat} (h : mOk f) (c : ¬ (f 3).toNatClampNeg ≤ k) : okP (nI k) := k_ok h.2.1 c
theorem kH_ok {f : MF} {k : Nat} (h : mOk f) (c : ¬ (f 4).toNatClampNeg ≤ k) : okH (nI k) := k_ok h.2.2.1 c
theorem kC_ok {f : MF} {k : Nat} (h : mOk f) (c : ¬ (f 5).toNatClampNeg ≤ k) : okC (nI k) := k_ok h.2.2.2 c
-- what is read
abbrev mS (f : MF) (i : Int32) : Int32 := f (9 + i).toNatClampNeg
abbrev mP (f : MF) (i w : Int32) : Int32 := f ((19 + (2 * i)) + w).toNatClampNeg
abbrev mC (f : MF) (i w : Int32) : Int32 := f ((57 + (4 * i)) + w).toNatClampNeg
abbrev mD (f : MF) (s h : Int32) : Int32 := f ((27 + (10 * h)) + s).toNatClampNeg - 1
abbrev sC (f : MF) (i w v : Int32) : MF := upd f ((57 + (4 * i)) + w).toNatClampNeg v
def mHb (f : MF) (n : Int32) : Int32 := f 1 * minI (ofD (f 0 + n)) (24 - ofD (f 0 + n)) / 6
abbrev farM (f : MF) (s p : Int32) : Int32 := absI (mS f s - mP f p 0)
abbrev shM (f : MF) (s p h : Int32) : Prop := tooHot h (farM f s p) (mP f p 1)
abbrev bendM (f : MF) (s p : Int32) : Int32 := mHb f 0 * farM f s p / 50
def seM (f : MF) (s p : Int32) : Int32 :=
  if mS f s = mP f p 0 then mS f s else maxI 0 (minI 99 (if ofD (f 0) < 12 then (if mS f s ≤ mP f p 0 then mS f s - bendM f s p else mS f s + bendM f s p) else (if mS f s ≤ mP f p 0 then mS f s + bendM f s p else mS f s - bendM f s p)))
abbrev lostM (f : MF) (c : Int32) : Prop := mC f c 1 = 20
def tdS (f : MF) (k : Nat) (n : Int32) : Int32 := n + mC f (nI k) 2
def tdM (f : MF) : Int32 := itr (tdS f) 0 (f 5).toNatClampNeg
/-- what a change does to the numbers of now: what it answers and they then, or the reason and its detail -/
abbrev MR : Type := (Int32 × MF) ⊕ (Int32 × Int32)
def rfM (md : FL) (k d : Int32) : FL := up2 (up2 (up2 md 7 14 k) 7 15 d) 7 17 (md 7 16)
def bM : MR → Int32
  | .inl _ => 1
  | .inr _ => 0
/-- as the methods that answer whether, by does -/
def rsM (md : FL) : MR → FL
  | .inl q => up2 (up1 md 0 q.2) 7 18 q.1
  | .inr q => rfM md q.1 q.2
theorem bM_l {v : Int32} {f : MF} : bM (.inl (v, f)) = 1 := rfl
theorem bM_r {k d : Int32} : bM (.inr (k, d)) = 0 := rfl
theorem rsM_l {md : FL} {v : Int32} {f : MF} : rsM md (.inl (v, f)) = up2 (up1 md 0 f) 7 18 v := rfl
theorem rsM_r {md : FL} {k d : Int32} : rsM md (.inr (k, d)) = rfM md k d := rfl
theorem bM_n {r : MR} : narrow .boolean (.int (bM r)) = .int (bM r) := by
  cases r with
  | inl q => rw [show bM (.inl q) = 1 from rfl]; rfl
  | inr q => rw [show bM (.inr q) = 0 from rfl]; rfl
def trM (md : FL) : FL := up1 (up2 (up2 md 7 19 0) 7 16 0) 1 (md 0)
/-- the kept ones, a place made free at the end -/
def shK (md : FL) : FL := up2 (up1 md 2 (cpy 567 (fun i => md 2 (81 + i)) (md 2))) 7 3 (md 7 3 - 1)
def puK (md : FL) : FL := up2 (up1 md 2 (blk (81 * (md 7 3).toNatClampNeg) 81 (md 1) (md 2))) 7 3 (md 7 3 + 1)
def kpM (md : FL) : FL := if md 7 3 = 8 then puK (shK md) else puK md
abbrev unOk (md : FL) : Prop := ¬ md 7 3 < 0 ∧ md 7 3 ≤ 8
def seV : MR → Int32
  | .inl q => q.1
  | .inr _ => 0
def seE (md : FL) : MR → FL
  | .inl q => kpM (rsM (trM md) (.inl q))
  | .inr q => up2 (rsM (trM md) (.inr q)) 7 19 1
/-- as the methods that keep at once -/
def snE (md : FL) : MR → FL
  | .inl q => kpM (up1 (trM md) 0 q.2)
  | .inr q => up2 (rsM (trM md) (.inr q)) 7 19 1
theorem seV_l {v : Int32} {f : MF} : seV (.inl (v, f)) = v := rfl
theorem seV_r {k d : Int32} : seV (.inr (k, d)) = 0 := rfl
theorem snE_l {md : FL} {v : Int32} {f : MF} : snE md (.inl (v, f)) = kpM (up1 (trM md) 0 f) := rfl
theorem snE_r {md : FL} {k d : Int32} : snE md (.inr (k, d)) = up2 (rfM (trM md) k d) 7 19 1 := rfl
theorem en_V {md : FL} {r : MR} : (if bM r = 0 then 0 else rsM md r 7 18) = seV r := by cases r <;> rfl
theorem en_E {md : FL} {r : MR} : (if bM r = 0 then up2 (rsM (trM md) r) 7 19 1 else kpM (rsM (trM md) r)) = seE md r := by cases r <;> rfl
theorem rsM_un {md : FL} {r : MR} : rsM md r 7 3 = md 7 3 := by
  cases r with
  | inl q => rfl
  | inr q => rfl
-- the changes
def stF (f : MF) (p : Int32) : MF := upd (upd f 2 (f 2 + 1)) (9 + f 2).toNatClampNeg p
def stM (f : MF) (p : Int32) : MR := if ¬ inB p 0 99 then .inr (1, 0) else if f 2 = 10 then .inr (2, 10) else if ¬ fnd (fun k => decide (mS f (nI k) = p)) (f 2).toNatClampNeg 0 = -1 then .inr (4, fnd (fun k => decide (mS f (nI k) = p)) (f 2).toNatClampNeg 0) else .inl (f 2, stF f p)
def poF (f : MF) (p h : Int32) : MF := upd (upd (upd f 3 (f 3 + 1)) (19 + 2 * f 3).toNatClampNeg p) (19 + 2 * f 3 + 1).toNatClampNeg h
def poM (f : MF) (p h : Int32) : MR := if ¬ inB p 0 99 ∨ ¬ inB h 1 9 then .inr (1, 0) else if f 3 = 4 then .inr (2, 4) else .inl (f 3, poF f p h)
def zS (f : MF) (k : Nat) (f2 : MF) : MF := upd f2 (27 + 10 * f 4 + nI k).toNatClampNeg 0
def shF (f : MF) : MF := itr (zS f) (upd f 4 (f 4 + 1)) 10
def shMo (f : MF) : MR := if f 4 = 3 then .inr (2, 3) else .inl (f 4, shF f)
def heM (f : MF) (h : Int32) : MR := if ¬ inB h 0 9 then .inr (1, 0) else .inl (mHb (upd f 1 h) 0, upd f 1 h)
def leM (f : MF) (s p : Int32) : Int32 := fnd (fun k => decide (¬ shM f s p (mHb f 0 - nI k))) 20 0
def dwF (f : MF) (s h v : Int32) : MF := upd f ((27 + (10 * h)) + s).toNatClampNeg v
def sgF2 (f : MF) (s h v : Int32) : MF := upd (dwF f s h v) 8 (dwF f s h v 8 + 1)
def sgM (f : MF) (s p h : Int32) : MR := if ¬ inB s 0 (f 2 - 1) then .inr (3, s) else if ¬ inB p 0 (f 3 - 1) then .inr (3, p) else if ¬ inB h 0 (f 4 - 1) then .inr (3, h) else if ¬ leM f s p ≤ 0 then .inr (5, leM f s p) else .inl (seM f s p, sgF2 f s h (seM f s p + 1))
def erM (f : MF) (s h : Int32) : MR := if ¬ inB s 0 (f 2 - 1) then .inr (3, s) else if ¬ inB h 0 (f 4 - 1) then .inr (3, h) else if ¬ 0 ≤ mD f s h then .inr (6, s) else .inl (mD f s h, dwF f s h 0)
def c4S (c : Int32) (k : Nat) (f : MF) : MF := sC f c (nI k) 0
def caF2 (f : MF) (p : Int32) : MF := sC (itr (c4S (f 5)) (upd f 5 (f 5 + 1)) 4) (f 5) 0 p
def caM (f : MF) (p : Int32) : MR := if ¬ inB p 0 99 then .inr (1, 0) else if f 5 = 6 then .inr (2, 6) else .inl (f 5, caF2 f p)
def riC (f : MF) (c a : Int32) : MF := if mC f c 2 = 0 ∧ ¬ lostM f c ∧ ¬ 30 - mHb f 0 < absI (mC f c 0 - a) then (if a ≤ mC f c 0 then sC f c 0 (mC f c 0 - minI 10 (absI (mC f c 0 - a))) else sC f c 0 (mC f c 0 + minI 10 (absI (mC f c 0 - a)))) else f
def riS (a : Int32) (k : Nat) (s : Int32 × MF) : Int32 × MF := (if mC (riC s.2 (nI k) a) (nI k) 0 = a then s.1 + 1 else s.1, riC s.2 (nI k) a)
def riM (f : MF) (a : Int32) : MR := if ¬ inB a 0 99 then .inr (1, 0) else .inl (itr (riS a) (0, f) (f 5).toNatClampNeg)
def neS (f : MF) (c : Int32) (k : Nat) (n : Int32) : Int32 := minI n (absI (mP f (nI k) 0 - mC f c 0))
def neM (f : MF) (c : Int32) : Int32 := itr (neS f c) 100 (f 3).toNatClampNeg
def tiM (f : MF) (c : Int32) : MR := if ¬ inB c 0 (f 5 - 1) then .inr (3, c) else if lostM f c then .inr (8, mC f c 0) else if mC f c 2 = 1 then .inr (7, c) else if f 3 = 0 then .inr (11, 0) else if ¬ neM f c ≤ 5 then .inr (11, neM f c) else .inl (tdM (sC f c 2 1), sC f c 2 1)
def loM (f : MF) (c : Int32) : MR := if ¬ inB c 0 (f 5 - 1) then .inr (3, c) else if mC f c 2 = 0 then .inr (7, c) else .inl (tdM (sC f c 2 0), sC f c 2 0)
abbrev cuM (f : MF) (c : Int32) : Int32 := (mC f c 1 + 1) / 2
abbrev dr1 (f : MF) (c : Int32) : MF := upd f 6 (f 6 - cuM f c)
abbrev dr2 (f : MF) (c : Int32) : MF := upd (dr1 f c) 7 (dr1 f c 7 + cuM f c)
abbrev dr3 (f : MF) (c : Int32) : MF := sC (dr2 f c) c 1 0
abbrev dr4 (f : MF) (c : Int32) : MF := sC (dr3 f c) c 3 (mC (dr3 f c) c 3 + cuM f c)
def drM (f : MF) (c : Int32) : MR := if ¬ inB c 0 (f 5 - 1) then .inr (3, c) else if lostM f c then .inr (8, mC f c 0) else if mC f c 1 = 0 then .inr (10, c) else if ¬ cuM f c ≤ f 6 then .inr (9, cuM f c - f 6) else .inl (dr4 f c 6, dr4 f c)
def waM (f : MF) (u : Int32) : MR := if ¬ inB u 1 100 then .inr (1, 0) else if ¬ f 6 + u ≤ 200 then .inr (2, 200) else .inl (upd f 6 (f 6 + u) 6, upd f 6 (f 6 + u))
def p1C (f : MF) (h c : Int32) : MF := sC f c 1 (minI 20 (mC f c 1 + h / 4))
def p1S (h : Int32) (k : Nat) (s : Int32 × MF) : Int32 × MF := if lostM s.2 (nI k) then s else (if lostM (p1C s.2 h (nI k)) (nI k) then s.1 + 1 else s.1, p1C s.2 h (nI k))
def p2S (k : Nat) (f : MF) : MF := if lostM f (nI k) then f else if mC f (nI k) 2 = 1 then f else if nI k - nI k / 2 * 2 = 0 then sC f (nI k) 0 (minI 99 (mC f (nI k) 0 + 3)) else sC f (nI k) 0 (maxI 0 (mC f (nI k) 0 - 3))
def p1M (s : Int32 × MF) : Int32 × MF := itr (p1S (mHb s.2 0)) s (s.2 5).toNatClampNeg
def p2M (h : Int32) (f : MF) : MF := if h < 6 then f else itr p2S f (f 5).toNatClampNeg
def p3M (f : MF) : MF := upd f 0 (f 0 + 1)
def paS (_ : Nat) (s : Int32 × MF) : Int32 × MF := ((p1M s).1, p3M (p2M (mHb s.2 0) (p1M s).2))
def paM (f : MF) (n : Int32) : MR := if ¬ inB n 1 48 then .inr (1, 0) else .inl (itr paS (0, f) n.toNatClampNeg)
theorem sC_lo {f : MF} {c w v : Int32} {j : Nat} (hc : okC c) (hw : okW w) (hj : j < 57) : sC f c w v j = f j := by
  obtain ⟨a, ha, rfl⟩ := ok_nI (n := 6) rfl hc
  obtain ⟨b, hb, rfl⟩ := ok_nI (n := 4) rfl hw
  have e : (57 : Int32) + (4 * nI a) + nI b = nI (57 + 4 * a + b) := by rw [show (4 : Int32) * nI a = nI (4 * a) from nI_mul 4 a, show (57 : Int32) + nI (4 * a) = nI (57 + 4 * a) from nI_add 57 _, nI_add]
  show upd f _ v j = _
  rw [e, nI_clamp (by omega)]
  unfold upd
  rw [if_neg (by omega)]
theorem okC_nI {k : Nat} (h : k < 6) : okC (nI k) := ⟨nI_pos (by omega), nI_lt (b := 6) h (by decide)⟩
theorem clamp6 {x : Int32} (h : cOk x 6) : x.toNatClampNeg ≤ 6 := by
  have := Int32.le_iff_toInt_le.mp h.2
  show x.toInt.toNat ≤ 6
  have e : (6 : Int32).toInt = 6 := rfl
  omega
theorem clampN {x : Int32} {n : Nat} {b : Int32} (hb : b.toInt = n) (h : cOk x b) : x.toNatClampNeg ≤ n := by
  have := Int32.le_iff_toInt_le.mp h.2
  show x.toInt.toNat ≤ n
  omega
/-- a loop that keeps the low numbers -/
theorem itr_lo {α : Type} (st : Nat → α → α) (q : α → MF) (h : ∀ k a, k < 6 → ∀ j, j < 57 → q (st k a) j = q a j) (a : α) : ∀ n, n ≤ 6 → ∀ j, j < 57 → q (itr st a n) j = q a j
  | 0, _, _, _ => rfl
  | n + 1, hn, j, hj => (h n _ (by omega) j hj).trans (itr_lo st q h a n (by omega) j hj)
theorem riC_lo {f : MF} {c a : Int32} {j : Nat} (hc : okC c) (hj : j < 57) : riC f c a j = f j := by
  unfold riC
  split
  · split <;> exact sC_lo hc (by decide) hj
  · rfl
theorem ri_lo {f : MF} {a n : Int32} {k j : Nat} (hk : k ≤ 6) (hj : j < 57) : (itr (riS a) (n, f) k).2 j = f j :=
  itr_lo (riS a) (fun s => s.2) (fun k s hk j hj => riC_lo (okC_nI hk) hj) (n, f) k hk j hj
theorem p1_lo {h : Int32} {s : Int32 × MF} {k j : Nat} (hk : k ≤ 6) (hj : j < 57) : (itr (p1S h) s k).2 j = s.2 j :=
  itr_lo (p1S h) (fun s => s.2) (fun k s hk j hj => by
    show (p1S h k s).2 j = _
    unfold p1S
    split
    · rfl
    · exact sC_lo (okC_nI hk) (by decide) hj) s k hk j hj
theorem p2_lo {f : MF} {k j : Nat} (hk : k ≤ 6) (hj : j < 57) : itr p2S f k j = f j :=
  itr_lo p2S id (fun k f hk j hj => by
    show p2S k f j = f j
    unfold p2S
    split
    · rfl
    · split
      · rfl
      · split <;> exact sC_lo (okC_nI hk) (by decide) hj) f k hk j hj
theorem pa_lo1 {s : Int32 × MF} (h : mOk s.2) {j : Nat} (h0 : j ≠ 0) (hj : j < 57) : (paS 0 s).2 j = s.2 j := by
  have h1 : ∀ j, j < 57 → (p1M s).2 j = s.2 j := fun j hj => p1_lo (clamp6 h.2.2.2) hj
  have h2 : ∀ f : MF, cOk (f 5) 6 → ∀ x : Int32, ∀ j, j < 57 → p2M x f j = f j := fun f hf x j hj => by
    unfold p2M
    split
    · rfl
    · exact p2_lo (clamp6 hf) hj
  show upd (p2M (mHb s.2 0) (p1M s).2) 0 _ j = _
  unfold upd
  rw [if_neg h0, h2 _ (by rw [h1 5 (by omega)]; exact h.2.2.2) _ j hj, h1 j hj]
theorem pa_ok {f : MF} (h : mOk f) {n : Int32} : ∀ k, mOk (itr paS (n, f) k).2
  | 0 => h
  | k + 1 => mOk_of (pa_ok h k) fun j h2 h6 => pa_lo1 (pa_ok h k) (by omega) (by omega)
theorem pa_1 {f : MF} (h : mOk f) {n : Int32} {k j : Nat} (h0 : j ≠ 0) (hj : j < 57) : (itr paS (n, f) k).2 j = f j := by
  induction k with
  | zero => rfl
  | succ k ih => exact (pa_lo1 (pa_ok h k) h0 hj).trans ih

-- the queries
abbrev leOk (f : MF) : Prop := ∀ s p : Int32, okS s → okP p → ∀ k, k ≤ 20 → (∀ j, j < k → shM f s p (mHb f 0 - nI j)) → k < 20
def wbM (f : MF) (h : Int32) (k : Nat) (n : Int32) : Int32 := if mD f (nI k) h < 0 then n else n + absI (mD f (nI k) h - mS f (nI k))
abbrev offM (f : MF) (s p : Int32) : Int32 := absI (seM f s p - mS f s)
def bpM (f : MF) (s : Int32) (k : Nat) (q : Int32 × Int32) : Int32 × Int32 := if shM f s (nI k) (mHb f 0) then q else if ¬ q.1 < 0 ∧ (q.2 < offM f s (nI k) ∨ (offM f s (nI k) = q.2 ∧ ¬ mP f q.1 1 < mP f (nI k) 1)) then q else (nI k, offM f s (nI k))
theorem bpM_ok {f : MF} {s : Int32} (h : mOk f) : ∀ k, k ≤ (f 3).toNatClampNeg → (itr (bpM f s) (-1, 0) k).1 < 0 ∨ okP (itr (bpM f s) (-1, 0) k).1
  | 0, _ => Or.inl (show (-1 : Int32) < 0 by decide)
  | k + 1, hk => by
    have ih := bpM_ok h (s := s) k (by omega)
    have hp := kP_ok h (k := k) (by omega)
    show (bpM f s k _).1 < 0 ∨ okP (bpM f s k _).1
    unfold bpM
    split
    · exact ih
    · split
      · exact ih
      · exact Or.inr hp
def liM (f : MF) : Nat → Nat → Int32 → Int32 × Int32
  | 0, h, t => (t, nI h)
  | d + 1, h, t => if 20 ≤ t then (t, nI h) else liM f d (h + 1) (t + mHb f (nI h) / 4)
abbrev naD (f : MF) (p b : Int32) (c : Int32) : Int32 := absI (mC f b 0 - p) - absI (mC f c 0 - p)
def naS (f : MF) (p : Int32) (k : Nat) (b : Int32) : Int32 := if 0 < naD f p b (nI (k + 1)) ∨ (naD f p b (nI (k + 1)) = 0 ∧ ¬ mC f (nI (k + 1)) 1 ≤ mC f b 1) then nI (k + 1) else b
theorem naS_ok {f : MF} {p : Int32} (h : mOk f) : ∀ k, k ≤ (f 5).toNatClampNeg - 1 → okC (itr (naS f p) 0 k)
  | 0, _ => (show okC 0 by decide)
  | k + 1, hk => by
    have ih := naS_ok h (p := p) k (by omega)
    have hp := kC_ok h (k := k + 1) (by omega)
    show okC (naS f p k _)
    unfold naS
    split
    · exact hp
    · exact ih
def clM (f : MF) (k : Nat) (n : Int32) : Int32 := if lostM f (nI k) then n + 1 else n
def thS (f : MF) (k : Nat) (n : Int32) : Int32 := n + mC f (nI k) 1
def dr1S (f : MF) (o h : Int32) (k : Nat) (n : Int32) : Int32 := if mD f (nI k) h < 0 then n else if o = 0 then n + 1 else if mD f (nI k) h = mS f (nI k) then n + 1 else n
def dr2S (f : MF) (o : Int32) (k : Nat) (n : Int32) : Int32 := itr (dr1S f o (nI k)) n (f 2).toNatClampNeg
def dwM (f : MF) (o : Int32) : Int32 := itr (dr2S f o) 0 (f 4).toNatClampNeg
def acM (md : FL) (w : Int32) : Int32 := if w = 0 then md 0 0 else if w = 1 then ofD (md 0 0) else if w = 2 then mHb (md 0) 0 else if w = 3 then md 0 1 else if w = 4 then md 0 2 else if w = 5 then md 0 3 else if w = 6 then md 0 4 else if w = 7 then dwM (md 0) 0 else if w = 8 then md 0 5 else if w = 9 then tdM (md 0) else if w = 10 then itr (clM (md 0)) 0 (md 0 5).toNatClampNeg else if w = 11 then md 0 6 else if w = 12 then md 0 7 else if w = 13 then 30 - mHb (md 0) 0 else if w = 14 then md 0 8 else if w = 15 then md 7 3 else if w = 16 then md 7 9 else 0
theorem up2_up2 {fl : FL} {k i : Nat} {a b : Int32} : up2 (up2 fl k i a) k i b = up2 fl k i b := by
  unfold up2
  rw [up1_up1, up1_at]
  congr 1
  funext j
  unfold upd
  by_cases h : j = i
  · rw [if_pos h, if_pos h]
  · rw [if_neg h, if_neg h, if_neg h]
theorem unK {md : FL} (h : unOk md) (n : ¬ md 7 3 = 8) : ∃ U, U < 8 ∧ md 7 3 = nI U := by
  obtain ⟨U, hU, e⟩ := nI_of2 (n := 8) rfl h.1 h.2
  refine ⟨U, ?_, e⟩
  rcases Nat.lt_or_ge U 8 with z | z
  · exact z
  · exact absurd (e.trans (by rw [show U = 8 by omega]; rfl)) n
theorem unP {md : FL} (h : unOk md) (n : ¬ md 7 3 = 0) : ∃ U, U < 8 ∧ md 7 3 - 1 = nI U := by
  obtain ⟨U, hU, e⟩ := nI_of2 (n := 8) rfl h.1 h.2
  cases U with
  | zero => exact absurd (e.trans rfl) n
  | succ U => exact ⟨U, by omega, by rw [e]; exact nI_pred U⟩
theorem nI_81 {u k : Nat} : 81 * nI u + nI k = nI (81 * u + k) := by rw [show (81 : Int32) * nI u = nI (81 * u) from nI_mul 81 u, nI_add]
def unM (md : FL) : FL := up1 (up2 (up2 md 7 19 0) 7 3 (md 7 3 - 1)) 0 (fun i => md 2 (81 * (md 7 3 - 1).toNatClampNeg + i))
-- the line
abbrev lOk (u : FL) (n : Nat) : Prop := ¬ u 7 7 < 0 ∧ (u 7 7).toNatClampNeg + n ≤ 100
theorem lIn {u : FL} {n : Nat} (h : lOk u (n + 1)) : vp_in (u 7 7) 100 := by
  rintro (z | z)
  · exact h.1 z
  · have := h.2; omega
def lpM (u : FL) (v : Int32) : FL := up1 (up2 u 7 7 (u 7 7 + 1)) 4 (upd (u 4) (u 7 7).toNatClampNeg v)
theorem lp_mk {Y : FL} {c : Int32} : up1 (up2 Y 7 7 (Y 7 7 + 1)) 4 (upd (Y 4) (Y 7 7).toNatClampNeg c) = lpM Y c := rfl
theorem lOk_s {u : FL} {n : Nat} {v : Int32} (h : lOk u (n + 1)) : lOk (lpM u v) n := by
  obtain ⟨j, hj, e⟩ := nI_of h.1
  have h2 := h.2
  rw [e, nI_clamp hj] at h2
  show ¬ u 7 7 + 1 < 0 ∧ (u 7 7 + 1).toNatClampNeg + n ≤ 100
  rw [e, nI_1, nI_clamp (by omega)]
  exact ⟨nI_pos (by omega), by omega⟩
theorem lOk_le {u : FL} {n k : Nat} (h : lOk u n) (hk : k ≤ n) : lOk u k := ⟨h.1, by have := h.2; omega⟩
def lnM (u : FL) (v : Int32) : FL := lpM (if v ≤ 9 then u else lpM u (48 + (v / 10 - v / 10 / 10 * 10))) (48 + (v - v / 10 * 10))
theorem lOk_n {u : FL} {n : Nat} {v : Int32} (h : lOk u (n + 2)) : lOk (lnM u v) n := by
  unfold lnM
  split
  · exact lOk_s (lOk_le h (by omega))
  · exact lOk_s (lOk_s h)
def lkA (u : FL) : FL := if u 7 7 ≤ 0 then u else lpM u 32
def lkB (u : FL) (s q : Int32) : FL := lnM (lpM (lnM (lkA u) s) 64) q
def lkM (u : FL) (s q t : Int32) : FL := if t = 0 then lkB u s q else lnM (lpM (lkB u s q) (if t ≤ 0 then 45 else 43)) (absI t)
theorem lOk_A {u : FL} {n : Nat} (h : lOk u (n + 1)) : lOk (lkA u) n := by
  unfold lkA
  split
  · exact lOk_le h (by omega)
  · exact lOk_s h
theorem lOk_k {u : FL} {n : Nat} {s q t : Int32} (h : lOk u (n + 9)) : lOk (lkM u s q t) n := by
  unfold lkM lkB
  split
  · exact lOk_le (lOk_n (n := n + 3) (lOk_s (lOk_n (n := n + 6) (lOk_A h)))) (by omega)
  · exact lOk_n (lOk_s (lOk_n (n := n + 3) (lOk_s (lOk_n (n := n + 6) (lOk_A h)))))
def lmS (f : MF) (h : Int32) (k : Nat) (u : FL) : FL := if ¬ 0 ≤ mD f (nI k) h then u else lkM u (nI k) (mD f (nI k) h) (mD f (nI k) h - mS f (nI k))
theorem lp_0 {u : FL} {v : Int32} : lpM u v 0 = u 0 := id rfl
theorem ln_0 {u : FL} {v : Int32} : lnM u v 0 = u 0 := by unfold lnM; rw [lp_0]; split <;> rfl
theorem lk_0 {u : FL} {s q t : Int32} : lkM u s q t 0 = u 0 := by
  have h1 : lkB u s q 0 = u 0 := by
    unfold lkB lkA
    rw [ln_0, lp_0, ln_0]
    split <;> rfl
  unfold lkM
  split
  · exact h1
  · rw [ln_0, lp_0, h1]
theorem lm_0 {f : MF} {h : Int32} {u : FL} {k : Nat} : itr (lmS f h) u k 0 = u 0 := itr_keep (lmS f h) (fun c => c 0) (fun _ _ => by
  show lmS f h _ _ 0 = _
  unfold lmS
  split
  · rfl
  · exact lk_0) u k
theorem lm_ok {f : MF} {h : Int32} {u : FL} (h0 : lOk u 100) : ∀ k, k ≤ 10 → lOk (itr (lmS f h) u k) (100 - 9 * k)
  | 0, _ => h0
  | k + 1, hk => by
    have ih := lm_ok h0 (f := f) (h := h) k (by omega)
    show lOk (lmS f h k _) _
    unfold lmS
    split
    · exact lOk_le ih (by omega)
    · exact lOk_k (lOk_le ih (by omega))
abbrev vOk (f : MF) (h : Int32) : Prop := ∀ k, k < 10 → ¬ 0 ≤ mD f (nI k) h ∨ ∃ a b, a < 100 ∧ b < 100 ∧ mD f (nI k) h = nI a ∧ mS f (nI k) = nI b
def bkM : Nat → Nat → FL → FL
  | 0, _, u => u
  | d + 1, k, u => if u 7 7 = nI k then bkM d (k + 1) (lpM u (chI [98, 108, 97, 110, 107] k)) else u
def lmE (md : FL) (h : Int32) : FL := bkM 5 0 (itr (lmS (md 0) h) (up2 (up2 md 7 19 0) 7 7 0) (md 0 2).toNatClampNeg)
theorem d10_9 : ∀ a, a < 100 → nI a / 10 ≤ 9 := by decide +kernel
theorem d10_o : ∀ a, a < 100 → ∀ b, b < 100 → absI (nI a - nI b) / 10 ≤ 9 := by decide +kernel
-- the text
abbrev tOk (md : FL) : Prop := ¬ md 7 9 < 0 ∧ md 7 9 ≤ 60
theorem tIn60 {x : Int32} (h : ¬ x < 0 ∧ x ≤ 60) (n : ¬ x = 60) : vp_in x 60 := by
  obtain ⟨U, hU, rfl⟩ := nI_of2 (n := 60) rfl h.1 h.2
  refine vp_in_nI ?_ (by decide)
  rcases Nat.lt_or_ge U 60 with z | z
  · exact z
  · exact absurd (show nI U = 60 by rw [show U = 60 by omega]; rfl) n
def apM (md : FL) (v : Int32) : FL := up1 (up2 (up2 md 7 19 0) 7 9 (md 7 9 + 1)) 5 (upd (md 5) (md 7 9).toNatClampNeg v)
abbrev aOk (md : FL) : Prop := ¬ md 7 10 < 0 ∧ md 7 10 ≤ md 7 9 ∧ md 7 9 ≤ 60
theorem aIn {md : FL} (h : aOk md) (n : ¬ md 7 10 = md 7 9) : vp_in (md 7 10) 60 := by
  have h1 := Int32.le_iff_toInt_le.mp h.2.1
  have h2 := Int32.le_iff_toInt_le.mp h.2.2
  have e : (60 : Int32).toInt = 60 := rfl
  refine tIn60 ⟨h.1, Int32.le_iff_toInt_le.mpr (by omega)⟩ (fun z => n ?_)
  apply Int32.toInt_inj.mp
  rw [z] at h1 ⊢
  omega
theorem aIn2 {md : FL} (h : aOk md) (n : ¬ md 7 9 ≤ md 7 10) : vp_in (md 7 10) 60 := aIn h (fun z => n (by rw [z]; exact Int32.le_refl _))
theorem a_step {a n : Int32} (h0 : ¬ a < 0) (h1 : a ≤ n) (h2 : n ≤ 60) (ne : ¬ a = n) : ¬ a + 1 < 0 ∧ a + 1 ≤ n := by
  have q1 := Int32.le_iff_toInt_le.mp h1
  have q2 := Int32.le_iff_toInt_le.mp h2
  have e : (60 : Int32).toInt = 60 := rfl
  obtain ⟨U, hU, rfl⟩ := nI_of h0
  rw [nI_toInt hU] at q1
  have q3 : (U : Int) ≠ n.toInt := fun z => ne (Int32.toInt_inj.mp (by rw [nI_toInt hU]; exact z))
  rw [nI_1]
  refine ⟨nI_pos (by omega), Int32.le_iff_toInt_le.mpr ?_⟩
  rw [nI_toInt (by omega)]
  omega
theorem aOk_s {md md2 : FL} (h : aOk md) (ne : ¬ md 7 10 = md 7 9) (e1 : md2 7 10 = md 7 10 + 1) (e2 : md2 7 9 = md 7 9) : aOk md2 := by
  unfold aOk
  rw [e1, e2]
  exact ⟨(a_step h.1 h.2.1 h.2.2 ne).1, (a_step h.1 h.2.1 h.2.2 ne).2, h.2.2⟩
theorem aOk_e {md md2 : FL} (h : aOk md) (e1 : md2 7 10 = md 7 10) (e2 : md2 7 9 = md 7 9) : aOk md2 := by
  unfold aOk
  rw [e1, e2]
  exact h
abbrev chM (md : FL) : Int32 := md 5 (md 7 10).toNatClampNeg
abbrev nxP (md : FL) (v : Int32) : Prop := ¬ md 7 10 = md 7 9 ∧ chM md = v
def nxS (md : FL) (v : Int32) : FL := if nxP md v then up2 md 7 10 (md 7 10 + 1) else md
theorem nx_ok {md : FL} {v : Int32} (h : aOk md) : aOk (nxS md v) := by
  unfold nxS
  split
  · rename_i c
    exact aOk_s h c.1 rfl rfl
  · exact h
abbrev dgQ (md : FL) : Prop := ¬ md 7 9 ≤ md 7 10 ∧ inB (chM md) 48 57
def dg0 (md : FL) (w : Int32) : FL := up1 md 6 (upd (md 6) w.toNatClampNeg 0)
def dg1 (md : FL) (w : Int32) : FL := up1 (up2 md 7 10 (md 7 10 + 1)) 6 (upd (md 6) w.toNatClampNeg (10 * md 6 w.toNatClampNeg + chM md - 48))
def dgL (w : Int32) : Nat → FL → FL
  | 0, md => md
  | d + 1, md => if dgQ md then dgL w d (dg1 md w) else md
def dgT (md : FL) (w u : Int32) : FL := dgL w u.toNatClampNeg (dg0 md w)
theorem ne_of_nle {a b : Int32} (h : ¬ b ≤ a) : ¬ a = b := fun e => h (by rw [e]; exact Int32.le_refl _)
theorem dg1_ok {md : FL} {w : Int32} (h : aOk md) (c : dgQ md) : aOk (dg1 md w) := aOk_s h (ne_of_nle c.1) rfl rfl
theorem dgL_ok {w : Int32} : ∀ (d : Nat) (md : FL), aOk md → aOk (dgL w d md)
  | 0, _, h => h
  | d + 1, md, h => by
    unfold dgL
    split
    · rename_i c
      exact dgL_ok d _ (dg1_ok h c)
    · exact h
theorem dgT_ok {md : FL} {w u : Int32} (h : aOk md) : aOk (dgT md w u) := dgL_ok _ _ (aOk_e h rfl rfl)
def mpL : List ((Int32 × Int32) ⊕ Int32) → FL → Bool × FL
  | [], md => (true, md)
  | .inl q :: bs, md => if dgQ (dg0 md q.1) then mpL bs (dgT md q.1 q.2) else (false, dgT md q.1 q.2)
  | .inr v :: bs, md => if nxP md v then mpL bs (nxS md v) else (false, nxS md v)
theorem mpL_ok : ∀ (bs : List ((Int32 × Int32) ⊕ Int32)) (md : FL), aOk md → aOk (mpL bs md).2
  | [], _, h => h
  | .inl q :: bs, md, h => by
    unfold mpL
    split
    · exact mpL_ok bs _ (dgT_ok h)
    · exact dgT_ok h
  | .inr v :: bs, md, h => by
    unfold mpL
    split
    · exact mpL_ok bs _ (nx_ok h)
    · exact nx_ok h
def ic0 (md : FL) : FL := up2 md 7 11 (chM md)
def ic1 (md : FL) : FL := up2 (ic0 md) 7 10 (ic0 md 7 10 + 1)
abbrev lfS : List ((Int32 × Int32) ⊕ Int32) := [.inl (0, 1), .inr 64, .inl (1, 1), .inr 62, .inl (2, 1)]
abbrev lfE : List ((Int32 × Int32) ⊕ Int32) := [.inl (0, 1), .inr 47, .inl (1, 1)]
abbrev lfB : List ((Int32 × Int32) ⊕ Int32) := [.inl (0, 2)]
abbrev lfT : List ((Int32 × Int32) ⊕ Int32) := [.inl (0, 1)]
def icR (md : FL) : Bool × FL := if md 7 10 = md 7 9 then (false, md) else if chM md = 98 then mpL lfB (ic1 md) else if chM md = 100 then mpL lfT (ic1 md) else if chM md = 101 then mpL lfE (ic1 md) else if chM md = 108 then mpL lfT (ic1 md) else if chM md = 115 then mpL lfS (ic1 md) else if chM md = 116 then mpL lfT (ic1 md) else if chM md = 119 then mpL lfB (ic1 md) else (false, ic0 md)
theorem icR_ok {md : FL} (h : aOk md) : aOk (icR md).2 := by
  unfold icR
  split
  · exact h
  · rename_i c
    have h1 : aOk (ic1 md) := aOk_s h c rfl rfl
    repeat (first | (split; exact mpL_ok _ _ h1) | exact aOk_e h rfl rfl)
def coM (v a b d : Int32) (f : MF) : MR := if v = 98 then riM f a else if v = 101 then erM f a b else if v = 108 then loM f a else if v = 115 then sgM f a b d else if v = 116 then tiM f a else if v = 119 then paM f a else drM f a
-- the commands
abbrev wl1 (u : FL) : FL := (icR (nxS u 59)).2
def wlM : Nat → FL → Bool × FL
  | 0, u => (true, u)
  | d + 1, u => if u 7 9 ≤ u 7 10 then (true, u) else if ¬ nxP u 59 then (false, nxS u 59) else if (icR (nxS u 59)).1 = true then wlM d (wl1 u) else (false, wl1 u)
def cpI (md : FL) : FL := up2 (trM md) 7 10 0
def cpR (md : FL) : Bool × FL := if (icR (cpI md)).1 = true then wlM 61 (icR (cpI md)).2 else (false, (icR (cpI md)).2)
abbrev me1 (u : FL) (k : Nat) : FL := up2 (icR u).2 7 16 (nI k)
abbrev meR (u : FL) : MR := coM (u 7 11) (u 6 0) (u 6 1) (u 6 2) (u 0)
abbrev me2 (u : FL) (k : Nat) : FL := rsM (me1 u k) (meR (me1 u k))
def meL : Nat → Nat → FL → (Bool × Nat) × FL
  | 0, k, u => ((true, k), u)
  | d + 1, k, u => if bM (meR (me1 u k)) = 0 then ((false, k), me2 u k) else if nxP (me2 u k) 59 then meL d (k + 1) (nxS (me2 u k) 59) else ((true, k + 1), nxS (me2 u k) 59)
def meI (md : FL) : FL := up2 (up2 (cpR md).2 7 13 (-1)) 7 10 0
def meE (md : FL) : (Bool × Nat) × FL := meL 61 0 (meI md)

