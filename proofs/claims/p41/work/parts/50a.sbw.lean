/-! THE BUILDER'S WORDS -/
theorem flat_to_before {args : Array Value} {s : State} : ∀ (T : Jvm.Cond), (∀ c ∈ flatC T, c.before args s = true) → T.before args s = true := by
  intro T
  induction T with
  | and a b iha ihb =>
    intro h
    rw [Cond.before_and, Bool.and_eq_true]
    exact ⟨iha fun c hc => h c (by simp only [flatC, List.mem_append]; exact Or.inl hc), ihb fun c hc => h c (by simp only [flatC, List.mem_append]; exact Or.inr hc)⟩
  | _ => intro h; exact h _ (by simp [flatC])
abbrev sbTA : Cond := Jvm.Free.SB.SBInit.tab
abbrev sbTB : Cond := Jvm.Free.SB.SBAppendS.tab
abbrev sbTC : Cond := Jvm.Free.SB.SBAppendSG.tab
abbrev sbTD : Cond := Jvm.Free.SBG.SbAppendI.tab
abbrev sbTE : Cond := Jvm.Free.SB.SBToString.tab
abbrev sbTF : Cond := Jvm.Free.SB.SBToStringF.tab
theorem sbIn_A : ((flatC sbTA).all fun w => decide (w ∈ lw_tbl)) = true := by decide +kernel
theorem sbIn_B : ((flatC sbTB).all fun w => decide (w ∈ lw_tbl)) = true := by decide +kernel
theorem sbIn_C : ((flatC sbTC).all fun w => decide (w ∈ lw_tbl)) = true := by decide +kernel
theorem sbIn_D : ((flatC sbTD).all fun w => decide (w ∈ lw_tbl)) = true := by decide +kernel
theorem sbIn_E : ((flatC sbTE).all fun w => decide (w ∈ lw_tbl)) = true := by decide +kernel
theorem sbIn_F : ((flatC sbTF).all fun w => decide (w ∈ lw_tbl)) = true := by decide +kernel
theorem sbIn_G : (Jvm.Stand.sbLays.all fun w => decide (w ∈ lw_tbl)) = true := by decide +kernel
theorem sbIn_H : (Jvm.Free.SBG.strLays.all fun w => decide (w ∈ lw_tbl)) = true := by decide +kernel
