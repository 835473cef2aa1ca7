/-! the flats of the first object, one after another -/
def nxF (r : OR) (F : FL) : FL := match r with
  | .inl q => q.2
  | .inr _ => F
def vB (r : OR) (w : Int32) : Bool := match r with
  | .inl q => decide (q.1 = w)
  | .inr _ => false
theorem vB_ok {r : OR} {w : Int32} {F : FL} (h : vB r w = true) : r = .inl (w, nxF r F) := by
  cases r with
  | inl q =>
    obtain ⟨v, G⟩ := q
    have h : decide (v = w) = true := h
    rw [of_decide_eq_true h]
    rfl
  | inr q => cases h
def E0 : FL := flJ 30
def E1 : FL := nxF (phO E0 48) E0
theorem ok_1 : phO E0 48 = .inl (0, E1) := vB_ok (by decide +kernel)
def E2 : FL := nxF (dsO E1 0) E1
theorem ok_2 : dsO E1 0 = .inl (0, E2) := vB_ok (by decide +kernel)
def E3 : FL := nxF (dsO E2 11) E2
theorem ok_3 : dsO E2 11 = .inl (1, E3) := vB_ok (by decide +kernel)
def E4 : FL := nxF (dsO E3 22) E3
theorem ok_4 : dsO E3 22 = .inl (2, E4) := vB_ok (by decide +kernel)
def E5 : FL := nxF (dsO E4 33) E4
theorem ok_5 : dsO E4 33 = .inl (3, E5) := vB_ok (by decide +kernel)
def E6 : FL := nxF (dsO E5 44) E5
theorem ok_6 : dsO E5 44 = .inl (4, E6) := vB_ok (by decide +kernel)
def E7 : FL := nxF (dsO E6 55) E6
theorem ok_7 : dsO E6 55 = .inl (5, E7) := vB_ok (by decide +kernel)
def E8 : FL := nxF (dsO E7 66) E7
theorem ok_8 : dsO E7 66 = .inl (6, E8) := vB_ok (by decide +kernel)
def E9 : FL := nxF (dsO E8 77) E8
theorem ok_9 : dsO E8 77 = .inl (7, E9) := vB_ok (by decide +kernel)
def E10 : FL := nxF (dsO E9 88) E9
theorem ok_10 : dsO E9 88 = .inl (8, E10) := vB_ok (by decide +kernel)
def E11 : FL := nxF (dsO E10 99) E10
theorem ok_11 : dsO E10 99 = .inl (9, E11) := vB_ok (by decide +kernel)
def E12 : FL := nxF (spO E11 99 9) E11
theorem ok_12 : spO E11 99 9 = .inl (0, E12) := vB_ok (by decide +kernel)
def E13 : FL := nxF (spO E12 99 9) E12
theorem ok_13 : spO E12 99 9 = .inl (1, E13) := vB_ok (by decide +kernel)
def E14 : FL := nxF (spO E13 99 8) E13
theorem ok_14 : spO E13 99 8 = .inl (2, E14) := vB_ok (by decide +kernel)
def E15 : FL := nxF (spO E14 99 8) E14
theorem ok_15 : spO E14 99 8 = .inl (3, E15) := vB_ok (by decide +kernel)
def E16 : FL := nxF (asO E15) E15
theorem ok_16 : asO E15 = .inl (0, E16) := vB_ok (by decide +kernel)
def E17 : FL := nxF (asO E16) E16
theorem ok_17 : asO E16 = .inl (1, E17) := vB_ok (by decide +kernel)
def E18 : FL := nxF (asO E17) E17
theorem ok_18 : asO E17 = .inl (2, E18) := vB_ok (by decide +kernel)
def E19 : FL := nxF (caO E18 95) E18
theorem ok_19 : caO E18 95 = .inl (0, E19) := vB_ok (by decide +kernel)
def E20 : FL := nxF (caO E19 95) E19
theorem ok_20 : caO E19 95 = .inl (1, E20) := vB_ok (by decide +kernel)
def E21 : FL := nxF (caO E20 95) E20
theorem ok_21 : caO E20 95 = .inl (2, E21) := vB_ok (by decide +kernel)
def E22 : FL := nxF (caO E21 95) E21
theorem ok_22 : caO E21 95 = .inl (3, E22) := vB_ok (by decide +kernel)
def E23 : FL := nxF (caO E22 95) E22
theorem ok_23 : caO E22 95 = .inl (4, E23) := vB_ok (by decide +kernel)
def E24 : FL := nxF (caO E23 95) E23
theorem ok_24 : caO E23 95 = .inl (5, E24) := vB_ok (by decide +kernel)
theorem no_24_stake : dsO E24 5 = .inr (2, 10) := orB_ok (by decide +kernel)
theorem no_24_post : spO E24 0 1 = .inr (2, 4) := orB_ok (by decide +kernel)
theorem no_24_sheet : asO E24 = .inr (2, 3) := orB_ok (by decide +kernel)
theorem no_24_camel : caO E24 0 = .inr (2, 6) := orB_ok (by decide +kernel)
def E25 : FL := nxF (bwO E24 100) E24
theorem ok_25 : bwO E24 100 = .inl (160, E25) := vB_ok (by decide +kernel)
theorem no_25_water : bwO E25 41 = .inr (2, 200) := orB_ok (by decide +kernel)
def E26 : FL := nxF (bwO E25 40) E25
theorem ok_26 : bwO E25 40 = .inl (200, E26) := vB_ok (by decide +kernel)
def E27 : FL := nxF (tiO E26 0) E26
theorem ok_27 : tiO E26 0 = .inl (1, E27) := vB_ok (by decide +kernel)
def E28 : FL := nxF (tiO E27 1) E27
theorem ok_28 : tiO E27 1 = .inl (2, E28) := vB_ok (by decide +kernel)
def E29 : FL := nxF (tiO E28 2) E28
theorem ok_29 : tiO E28 2 = .inl (3, E29) := vB_ok (by decide +kernel)
def E30 : FL := nxF (tiO E29 3) E29
theorem ok_30 : tiO E29 3 = .inl (4, E30) := vB_ok (by decide +kernel)
def E31 : FL := nxF (tiO E30 4) E30
theorem ok_31 : tiO E30 4 = .inl (5, E31) := vB_ok (by decide +kernel)
theorem no_31_tie : tiO E31 4 = .inr (7, 4) := orB_ok (by decide +kernel)
theorem no_31_loose : loO E31 5 = .inr (7, 5) := orB_ok (by decide +kernel)
def E32 : FL := nxF (shO E31 8) E31
theorem ok_32 : shO E31 8 = .inl (0, E32) := vB_ok (by decide +kernel)
def E33 : FL := nxF (phO E32 12) E32
theorem ok_33 : phO E32 12 = .inl (0, E33) := vB_ok (by decide +kernel)
def E34 : FL := nxF (wcO E33 0) E33
theorem ok_34 : wcO E33 0 = .inl (191, E34) := vB_ok (by decide +kernel)
def E35 : FL := nxF (phO E34 1) E34
theorem ok_35 : phO E34 1 = .inl (5, E35) := vB_ok (by decide +kernel)
def E36 : FL := nxF (loO E35 1) E35
theorem ok_36 : loO E35 1 = .inl (4, E36) := vB_ok (by decide +kernel)
theorem no_36_tie : tiO E36 1 = .inr (8, 95) := orB_ok (by decide +kernel)
def E37 : FL := nxF (rbO E36 95) E36
theorem ok_37 : rbO E36 95 = .inl (5, E37) := vB_ok (by decide +kernel)
theorem no_37_sight : ∃ d, sgO E37 0 0 1 = .inr (5, d) := ⟨_, orB_ok (by decide +kernel : orB (sgO E37 0 0 1) 5 (htmF E37 0 0) = true)⟩
