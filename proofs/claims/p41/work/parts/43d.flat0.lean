/-! the empty Flat -/
theorem putR_upM {g : GC} {P : HM} {a r n : Nat} {sz : Int32} {f : Nat → Int32} {A B : va_E} (h : a < r) : upM (putR g (upM P a A) r n sz f) a B = upM (putR g P r n sz f) a B := by
  funext q
  by_cases h1 : q = a
  · simp [upM, h1]
  · simp [upM, putR, h1]
def fl0 : FL := fun i k => if i = 9 then (if k = 2 then 5 else if k = 3 then 60 else 0) else 0
def P8 (g : GC) (M : HM) (a : Nat) : HM := putR g (putR g (putR g (putR g (putR g (putR g (putR g (putR g M (a + 1) 10 0 (fun _ => 0)) (a + 3) 4 0 (fun _ => 0)) (a + 5) 4 0 (fun _ => 0)) (a + 7) 30 0 (fun _ => 0)) (a + 9) 6 0 (fun _ => 0)) (a + 11) 6 0 (fun _ => 0)) (a + 13) 6 0 (fun _ => 0)) (a + 15) 6 0 (fun _ => 0)
theorem fl0_row {k : Nat} (h : k ≠ 9) : fl0 k = fun _ => 0 := by
  funext j; simp [fl0, h]
theorem putF_new {g : GC} {M : HM} {a : Nat} : upM (P8 g M a) a (.inr (2, flO a fl0)) = putF g M a fl0 := by
  funext q
  by_cases hq : a ≤ q ∧ q < a + 17
  · obtain ⟨j, rfl⟩ : ∃ j, q = a + j := ⟨q - a, by omega⟩
    have hj : j < 17 := by omega
    simp only [putF, if_pos hq, Nat.add_sub_cancel_left, upM, P8, putR]
    have h : j = 0 ∨ j = 1 ∨ j = 2 ∨ j = 3 ∨ j = 4 ∨ j = 5 ∨ j = 6 ∨ j = 7 ∨ j = 8 ∨ j = 9 ∨ j = 10 ∨ j = 11 ∨ j = 12 ∨ j = 13 ∨ j = 14 ∨ j = 15 ∨ j = 16 := by omega
    rcases h with rfl | rfl | rfl | rfl | rfl | rfl | rfl | rfl | rfl | rfl | rfl | rfl | rfl | rfl | rfl | rfl | rfl <;> simp [flC, fl0, lenF, Nat.add_assoc] <;> rfl
  · simp only [putF, if_neg hq, upM, P8, putR]
    repeat rw [if_neg (by omega)]
