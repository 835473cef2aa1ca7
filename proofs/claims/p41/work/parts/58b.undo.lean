/-! undo, restore, save; what asks tells of a flat -/
def prv (nx : Nat) : Nat := if nx = 0 then 7 else nx - 1
theorem prv_lt {nx : Nat} (h : nx < 8) : prv nx < 8 := by unfold prv; split <;> omega
theorem tb_7 : ∀ nx : Nat, nx < 8 → (if nI nx ≤ 0 then (7 : Int32) else nI nx - 1) = nI (prv nx) := by decide +kernel
theorem tb_m : ∀ sz : Nat, sz < 9 → 0 < sz → maxI 0 (nI sz - 1) = nI (sz - 1) := by decide +kernel
theorem undo_ok {nx sz : Nat} {c : CS} (hR : Rg nx sz c) (hs : 0 < sz) : v_undo c = nI (sz - 1) ∧ s_undo c 0 = c (3 + prv nx) ∧ (∀ k, k ≠ 0 → k ≠ 11 → s_undo c k = c k) ∧ Rg (prv nx) (sz - 1) (s_undo c) ∧ (∀ k, k ≠ 3 → s_undo c 11 k = c 11 k) ∧ ∀ j, j ≠ 5 → j ≠ 6 → s_undo c 11 3 j = c 11 3 j := by
  obtain ⟨h1, h2, h6, h5⟩ := hR
  have hn : ¬ c 11 3 5 = 0 := by
    rw [h5]
    exact fun q => by
      have := (by decide : ∀ k : Nat, k < 9 → 0 < k → ¬ nI k = 0) sz (by omega) hs
      exact this q
  have eA : tbA c = upS c 6 (nI (prv nx)) := by
    unfold tbA
    rw [h6, tb_7 nx h1]
  have a5 : tbA c 11 3 5 = nI sz := by rw [eA, upS_s (by omega)]; exact h5
  have eB : tbB c = upS (upS c 6 (nI (prv nx))) 5 (nI (sz - 1)) := by
    unfold tbB
    rw [a5, tb_m sz (by omega) hs, eA]
  have b6 : tbB c 11 3 6 = nI (prv nx) := by
    rw [eB, upS_s (by omega)]
    unfold upS
    rw [upC_at, up2_at]
  have b5 : tbB c 11 3 5 = nI (sz - 1) := by
    rw [eB]
    unfold upS
    rw [upC_at, up2_at]
  have hp := prv_lt h1
  have eS : tbS c = upC (tbB c) 0 (c (3 + prv nx)) := by
    unfold tbS
    rw [b6, nI_clamp (by omega), eB, upS_f (by omega), upS_f (by omega)]
  unfold v_undo s_undo
  rw [if_pos hn, if_pos hn, eS]
  refine ⟨?_, ?_, fun k h0 h11 => ?_, ⟨hp, by omega, ?_, ?_⟩, fun k hk => ?_, fun j j5 j6 => ?_⟩
  · rw [upC_ne (by omega)]; exact b5
  · rw [upC_at]
  · rw [upC_ne h0, eB, upS_f h11, upS_f h11]
  · rw [upC_ne (by omega)]; exact b6
  · rw [upC_ne (by omega)]; exact b5
  · rw [upC_ne (by omega), eB, upS_r hk, upS_r hk]
  · rw [upC_ne (by omega), eB, upS_s j5, upS_s j6]
theorem undo_no {c : CS} (h : c 11 3 5 = 0) : v_undo c = -1001 ∧ s_undo c = c := by
  unfold v_undo s_undo
  rw [if_neg (fun q => q h), if_neg (fun q => q h)]
  exact ⟨rfl, rfl⟩
theorem rest_ok {c : CS} (h : c 11 3 7 = 1) : v_restore c = c 2 9 1 ∧ s_restore c = upS (upC c 0 (c 2)) 5 0 := by
  have hn : ¬ c 11 3 7 = 0 := by rw [h]; decide
  unfold v_restore s_restore
  rw [if_pos hn, if_pos hn]
  exact ⟨rfl, rfl⟩
theorem Aux.st {a b : CS} (h : Aux a) (h1 : b 11 1 = a 11 1) (h2 : b 11 2 = a 11 2) (h3 : b 11 3 4 = a 11 3 4) (h4 : b 11 3 1 = a 11 3 1) : Aux b := ⟨h.1.of h1 h2 h3, h4.trans h.2⟩
/-- the sum that asks tells of a flat -/
def aQ (fl : FL) (v : Int64) : Prop := ∃ ns np nh nc t dh cu : Nat, FI ns np nh nc t dh cu fl ∧ ∀ c : CS, c 0 = fl → askV c ns np nh nc = v
theorem aQ.uniq {fl : FL} {v w : Int64} (h : aQ fl v) (k : aQ fl w) : v = w := by
  obtain ⟨ns, np, nh, nc, t, dh, cu, hF, h⟩ := h
  obtain ⟨ns2, np2, nh2, nc2, t2, dh2, cu2, hF2, k⟩ := k
  have inj : ∀ a b : Nat, a < 2 ^ 31 → b < 2 ^ 31 → nI a = nI b → a = b := fun a b ha hb q => by
    have h9 := congrArg Int32.toNatClampNeg q
    rwa [nI_clamp ha, nI_clamp hb] at h9
  have b1 := hF.1
  have b2 := hF2.1
  obtain rfl : ns = ns2 := inj _ _ (by omega) (by omega) (hF.2.1.1.symm.trans hF2.2.1.1)
  obtain rfl : np = np2 := inj _ _ (by omega) (by omega) (hF.2.1.2.1.symm.trans hF2.2.1.2.1)
  obtain rfl : nc = nc2 := inj _ _ (by omega) (by omega) (hF.2.1.2.2.2.2.1.symm.trans hF2.2.1.2.2.2.2.1)
  obtain rfl : nh = nh2 := inj _ _ (by omega) (by omega) (hF.2.1.2.2.2.2.2.2.2.2.symm.trans hF2.2.1.2.2.2.2.2.2.2.2)
  exact (h (fun _ => fl) rfl).symm.trans (k (fun _ => fl) rfl)
theorem aQ.of {c : CS} {ns np nh nc t dh cu : Nat} (hF : FI ns np nh nc t dh cu (c 0)) : aQ (c 0) (askV c ns np nh nc) := ⟨ns, np, nh, nc, t, dh, cu, hF, fun c9 h => (askV_z h).1⟩
/-- asks, whatever stands there -/
theorem asks_any (l : Launch) (hlf : l.stackTraces = false) (g : GC) (M : HM) (x : Nat) (cs : CS) {n : Nat} (hW : ClsAt g M x cs) (hG : GI n (cs 0)) (hA : Aux cs) : ∃ (V : Int64) (c' : CS), KM g l yL_asks cL_asks 6 (some .long) 15 2000 12000 [.ref x] M (.inl (some (.long V), putC g M x c')) ∧ aQ (cs 0) V ∧ Rfd cs c' := by
  obtain ⟨ns, np, nh, nc, t, dh, cu, -, hF⟩ := hG
  exact ⟨_, _, c_L_asks l hlf g M x cs hW hF hA.ln, aQ.of hF, (askS_P hA.ln).rfd hA⟩
/-- one sight of makes' flat -/
theorem mk_sight {t i j k : Nat} {c : CS} (h : Mk 6 3 2 5 t c) (hi : i < 6) (hj : j < 3) (hk : k < 2) : (v_sight c (nI i) (nI j) (nI k) = -1001 ∧ s_sight c (nI i) (nI j) (nI k) 11 3 10 = 5 ∧ Mk 6 3 2 5 t (s_sight c (nI i) (nI j) (nI k))) ∨ ∃ v, v < 2 ^ 31 ∧ v_sight c (nI i) (nI j) (nI k) = nI v ∧ Mk 6 3 2 5 t (s_sight c (nI i) (nI j) (nI k)) := by
  obtain ⟨dh, cu, nx, sz, hF, hA, hR, hS⟩ := h
  have ev : v_sight c (nI i) (nI j) (nI k) = vO (sgO (c 0) (nI i) (nI j) (nI k)) := rfl
  have es : s_sight c (nI i) (nI j) (nI k) = sO c (sgO (c 0) (nI i) (nI j) (nI k)) := rfl
  rw [ev, es]
  rcases sg_ok hF hi hj hk with ⟨d, e⟩ | ⟨v, fl', hv, e, hF2, e0⟩
  · obtain ⟨e1, s1, s2, -⟩ := op_refE e hA
    exact Or.inl ⟨e1, s2, dh, cu, nx, sz, by rw [s1.1]; exact hF, s1.2.2, hR.keep s1.2.1, hS.of (by rw [s1.1])⟩
  · rw [e]
    obtain ⟨e1, s1, s2, s3, s4, s5, s6, s7⟩ := op_suc (w := v) (fl := fl') hv hA hR
    exact Or.inr ⟨v, hv, e1, dh, cu, _, _, by rw [s1]; exact hF2, s4, s7, hS.of (by rw [s1]; exact e0)⟩
theorem Mk.rfd {t : Nat} {a b : CS} (h : Mk 6 3 2 5 t a) (k : Rfd a b) : Mk 6 3 2 5 t b := by
  obtain ⟨dh, cu, nx, sz, hF, hA, hR, hS⟩ := h
  exact ⟨dh, cu, nx, sz, by rw [k.1]; exact hF, k.2.2, hR.keep k.2.1, hS.of (by rw [k.1])⟩
theorem Mk.gi {t : Nat} {a : CS} (h : Mk 6 3 2 5 t a) : GI t (a 0) ∧ Aux a ∧ ∃ nx sz, Rg nx sz a := by
  obtain ⟨dh, cu, nx, sz, hF, hA, hR, hS⟩ := h
  exact ⟨⟨6, 3, 2, 5, t, dh, cu, Nat.le_refl _, hF⟩, hA, nx, sz, hR⟩
/-! the ring of former flats -/
def bck (nx k : Nat) : Nat := (nx + 8 - k) % 8
/-- what the law knows behind 'done' changes that were done -/
def Rng (F0 : FL) (n done : Nat) (f : Nat → Int64) (c : CS) : Prop := GI n (c 0) ∧ Aux c ∧ c 2 = F0 ∧ c 11 3 7 = 1 ∧ ∃ nx sz : Nat, Rg nx sz c ∧ min 8 done ≤ sz ∧ ∀ k, 1 ≤ k → k ≤ min 8 done → ∃ n9, GI n9 (c (3 + bck nx k)) ∧ aQ (c (3 + bck nx k)) (f (done - k))
theorem Rng.rfd {F0 : FL} {n done : Nat} {f : Nat → Int64} {a b : CS} (h : Rng F0 n done f a) (k : Rfd a b) : Rng F0 n done f b := by
  obtain ⟨hG, hA, h2, h7, nx, sz, hR, hs, hh⟩ := h
  refine ⟨by rw [k.1]; exact hG, k.2.2, k.2.1.1.trans h2, k.2.1.2.2.2.2.trans h7, nx, sz, hR.keep k.2.1, hs, fun j j1 j2 => ?_⟩
  rw [k.2.1.2.1 _ (by unfold bck; omega)]
  exact hh j j1 j2
theorem Rng.suc {F0 : FL} {n n2 done nx sz : Nat} {f : Nat → Int64} {V : Int64} {a b : CS} {fl : FL} (hG : GI n (a 0)) (h2 : a 2 = F0) (h7 : a 11 3 7 = 1) (hR : Rg nx sz a) (hs : min 8 done ≤ sz) (hh : ∀ k, 1 ≤ k → k ≤ min 8 done → ∃ n9, GI n9 (a (3 + bck nx k)) ∧ aQ (a (3 + bck nx k)) (f (done - k))) (k : Scd nx sz a b fl) (hQ : aQ (a 0) V) (hg : GI n2 fl) : Rng F0 n2 (done + 1) (vp_updL f done V) b := by
  obtain ⟨s1, s2, s3, s4, s5, s6, s7⟩ := k
  have hnx := hR.1
  have hx : nxt nx = (nx + 1) % 8 := by unfold nxt; split <;> omega
  refine ⟨by rw [s1]; exact hg, s4, s2.trans h2, s3.trans h7, nxt nx, min 8 (sz + 1), s7, by omega, fun j j1 j2 => ?_⟩
  have hb : bck (nxt nx) j = bck nx (j - 1) := by unfold bck; rw [hx]; omega
  rw [hb]
  by_cases hj : j = 1
  · subst hj
    have e : bck nx (1 - 1) = nx := by unfold bck; omega
    rw [e, s5]
    refine ⟨n, hG, ?_⟩
    have : vp_updL f done V (done + 1 - 1) = V := by simp [vp_updL]
    rw [this]
    exact hQ
  · have hne : bck nx (j - 1) ≠ nx := by unfold bck; omega
    rw [s6 _ (by unfold bck; omega) hne]
    have : vp_updL f done V (done + 1 - j) = f (done - (j - 1)) := by
      have h1 : done + 1 - j ≠ done := by omega
      have h2 : done + 1 - j = done - (j - 1) := by omega
      rw [← h2]
      simp [vp_updL, h1]
    rw [this]
    exact hh (j - 1) (by omega) (by omega)
