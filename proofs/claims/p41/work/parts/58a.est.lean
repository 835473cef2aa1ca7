/-! flats told by tables -/
def flT (t : List (List Int)) : FL := fun i k => Int32.ofInt ((t.getD i []).getD k 0)
def FEq (F G : FL) : Prop := (∀ k, k < 8 → ∀ i, i < lenF k → F k i = G k i) ∧ (∀ k, k < 8 → F 8 k = G 8 k) ∧ ∀ k, k < 5 → F 9 k = G 9 k
def feB (F G : FL) : Bool := ((List.range 8).all fun k => (List.range (lenF k)).all fun i => decide (F k i = G k i)) && ((List.range 8).all fun k => decide (F 8 k = G 8 k)) && ((List.range 5).all fun k => decide (F 9 k = G 9 k))
theorem feB_ok {F G : FL} (h : feB F G = true) : FEq F G := by
  unfold feB at h
  rw [Bool.and_eq_true, Bool.and_eq_true] at h
  obtain ⟨⟨h1, h2⟩, h3⟩ := h
  refine ⟨fun k hk i hi => ?_, fun k hk => ?_, fun k hk => ?_⟩
  · exact of_decide_eq_true (List.all_eq_true.mp (List.all_eq_true.mp h1 k (List.mem_range.mpr hk)) i (List.mem_range.mpr hi))
  · exact of_decide_eq_true (List.all_eq_true.mp h2 k (List.mem_range.mpr hk))
  · exact of_decide_eq_true (List.all_eq_true.mp h3 k (List.mem_range.mpr hk))
def opB (r : OR) (w : Int32) (F : FL) : Bool := match r with
  | .inl q => decide (q.1 = w) && feB q.2 F
  | .inr _ => false
theorem opB_ok {r : OR} {w : Int32} {F : FL} (h : opB r w F = true) : ∃ F', r = .inl (w, F') ∧ FEq F' F := by
  cases r with
  | inl q =>
    obtain ⟨v, G⟩ := q
    have h : (decide (v = w) && feB G F) = true := h
    rw [Bool.and_eq_true] at h
    exact ⟨G, by rw [of_decide_eq_true h.1], feB_ok h.2⟩
  | inr q => cases h
def orB (r : OR) (k d : Int32) : Bool := match r with
  | .inl _ => false
  | .inr q => decide (q.1 = k) && decide (q.2 = d)
theorem orB_ok {r : OR} {k d : Int32} (h : orB r k d = true) : r = .inr (k, d) := by
  cases r with
  | inl q => cases h
  | inr q =>
    obtain ⟨a, b⟩ := q
    have h : (decide (a = k) && decide (b = d)) = true := h
    rw [Bool.and_eq_true] at h
    rw [of_decide_eq_true h.1, of_decide_eq_true h.2]
theorem flC_at {g : GC} {a j q : Nat} {F G : FL} {H : Heap} (h : FEq F G) (hj : j < 17) (hv : va_at g.1 vwCl (q, flC g a F j) H) : va_at g.1 vwCl (q, flC g a G j) H := by
  unfold flC at hv ⊢
  by_cases h0 : j = 0
  · rw [if_pos h0] at hv ⊢
    have e : flO a F = flO a G := by
      unfold flO
      rw [h.2.2 0 (by omega), h.2.2 1 (by omega), h.2.2 2 (by omega), h.2.2 3 (by omega), h.2.2 4 (by omega)]
    rw [← e]
    exact hv
  · rw [if_neg h0] at hv ⊢
    by_cases h1 : j % 2 = 1
    · rw [if_pos h1] at hv ⊢
      rw [← h.2.1 _ (by omega)]
      exact hv
    · rw [if_neg h1] at hv ⊢
      have hv : H[q]? = some (vp_cell (gI g) (lenF ((j - 2) / 2), .inl (F ((j - 2) / 2)))) := hv
      show H[q]? = some (vp_cell (gI g) (lenF ((j - 2) / 2), .inl (G ((j - 2) / 2))))
      rw [← vp_cell_ext (fun i hi => h.1 _ (by omega) i hi)]
      exact hv
/-- the heap doesn't tell two tables of the same places -/
theorem hR.flat0 {g : GC} {M : HM} {x : Nat} {c : CS} {G : FL} {H : Heap} (h : hR g (putC g M x c) H) (hF : FEq (c 0) G) : hR g (putC g M x (upC c 0 G)) H := by
  intro q e hq
  unfold putC at hq
  by_cases hr : x ≤ q ∧ q < x + 196
  · rw [if_pos hr] at hq
    have h1 := h q (clC g x c (q - x)) (by unfold putC; rw [if_pos hr])
    refine ⟨h1.1, ?_⟩
    cases hq
    by_cases h18 : 1 ≤ q - x ∧ q - x < 18
    · have e1 : ∀ c9 : CS, clC g x c9 (q - x) = flC g (x + 1) (c9 0) (q - x - 1) := fun c9 => by
        unfold clC
        rw [if_neg (by omega), if_pos (by omega), show (q - x - 1) / 17 = 0 by omega, show (q - x - 1) % 17 = q - x - 1 by omega]
      have h2 := h1.2
      rw [e1] at h2 ⊢
      rw [upC_at]
      exact flC_at hF (by omega) h2
    · rw [ClsAt.nk (k := 0) (by omega) (by omega) (by unfold fad; rw [if_pos (by omega)]; omega)]
      exact h1.2
  · rw [if_neg hr] at hq
    exact h q e (by unfold putC; rw [if_neg hr]; exact hq)
