/-! WHAT asks ANSWERS: a function of the flat alone -/
def as1 (c : CS) (k : Nat) (a : Int64) : Int64 := 31 * a + (v_account c (nI k)).toInt64
def as2h (c : CS) (i k : Nat) (a : Int64) : Int64 := 31 * a + (v_drawnAt c (nI i) (nI k)).toInt64
def as2p (c : CS) (i k : Nat) (a : Int64) : Int64 := 31 * (31 * (31 * (31 * a + (v_seems c (nI i) (nI k)).toInt64) + (v_seemsAgain c (nI i) (nI k)).toInt64) + (v_shimmers c (nI i) (nI k)).toInt64) + (v_clearIn c (nI i) (nI k)).toInt64
def as2 (c : CS) (np nh i : Nat) (a : Int64) : Int64 := itr (as2p c i) (itr (as2h c i) (31 * (31 * a + (v_stakeAt c (nI i)).toInt64) + (v_bestPost c (nI i)).toInt64) nh) np
def as3 (c : CS) (k : Nat) (a : Int64) : Int64 := 31 * (31 * a + (v_postOf c (nI k) 1).toInt64) + (v_postOf c (nI k) 0).toInt64
def as4w (c : CS) (i k : Nat) (a : Int64) : Int64 := 31 * a + (v_camelOf c (nI i) (nI k)).toInt64
def as4 (c : CS) (i : Nat) (a : Int64) : Int64 := 31 * itr (as4w c i) a 5 + (v_lostIn c (nI i)).toInt64
def as5c (c : CS) (k : Nat) (a : Int64) : Int64 := 31 * a + (v_character c (nI k)).toInt64
/-- a sheet's part: the sum, and the state with its line -/
def as5 (k : Nat) (q : Int64 × CS) : Int64 × CS := (itr (as5c (s_line q.2 (nI k))) (31 * q.1 + (v_wrongBy q.2 (nI k)).toInt64) (v_line q.2 (nI k)).toNatClampNeg, s_line q.2 (nI k))
def as0 (c : CS) : Int64 := 31 * (v_rightShare c).toInt64 + (v_meanThirst c).toInt32.toInt64
def asA (c : CS) (ns np nh nc : Nat) : Int64 := itr (as4 c) (itr (as3 c) (itr (as2 c np nh) (itr (as1 c) (as0 c) 15) ns) np) nc
def asB (c : CS) (ns np nh nc : Nat) : Int64 × CS := itr as5 (asA c ns np nh nc, c) nh
def asF (c : CS) (a : Int64) : Int64 := 31 * (31 * (31 * a + (v_heatIn c 7).toInt64) + (v_nearest c 0).toInt64) + (v_nearest c 50).toInt64
def askV (c : CS) (ns np nh nc : Nat) : Int64 := asF (asB c ns np nh nc).2 (asB c ns np nh nc).1
def askS (c : CS) (ns np nh nc : Nat) : CS := (asB c ns np nh nc).2
/-! the line: its signs are the flat's alone -/
def LR (a b : CS) : Prop := a 0 = b 0 ∧ ∃ n, n ≤ 79 ∧ a 11 3 4 = nI n ∧ b 11 3 4 = nI n ∧ ∀ i, i < n → a 11 2 i = b 11 2 i
theorem LR.lp {a b : CS} (h : LR a b) (v : Int32) : LR (lpS a v) (lpS b v) := by
  obtain ⟨h0, n, hn, ea, eb, hi⟩ := h
  unfold lpS
  by_cases q : n < 79
  · have ha : ¬ a 11 3 4 < 0 ∧ ¬ nI 79 ≤ a 11 3 4 := by rw [ea]; exact ⟨nI_pos (by omega), nI_ge q (by decide)⟩
    have hb : ¬ b 11 3 4 < 0 ∧ ¬ nI 79 ≤ b 11 3 4 := by rw [eb]; exact ⟨nI_pos (by omega), nI_ge q (by decide)⟩
    rw [if_pos ha, if_pos hb, upA_s (by omega), upA_s (by omega), ea, eb, nI_clamp (by omega), nI_1]
    refine ⟨by rw [upS_f (by omega), upS_f (by omega), upA_f (by omega), upA_f (by omega), h0], n + 1, by omega, rfl, rfl, fun i hin => ?_⟩
    rw [upS_r (by omega), upS_r (by omega), upA_at, upA_at]
    by_cases hin2 : i = n
    · subst hin2; rw [upd_at, upd_at]
    · rw [upd_ne hin2, upd_ne hin2, hi i (by omega)]
  · have ha : ¬ (¬ a 11 3 4 < 0 ∧ ¬ nI 79 ≤ a 11 3 4) := by rw [ea]; exact fun z => z.2 (nI_le (by omega) (by omega))
    have hb : ¬ (¬ b 11 3 4 < 0 ∧ ¬ nI 79 ≤ b 11 3 4) := by rw [eb]; exact fun z => z.2 (nI_le (by omega) (by omega))
    rw [if_neg ha, if_neg hb]
    exact ⟨h0, n, hn, ea, eb, hi⟩
theorem LR.ln {a b : CS} (h : LR a b) (v : Int32) : LR (lnS a v) (lnS b v) := by
  unfold lnS
  refine LR.lp ?_ _
  by_cases q : v < 10
  · rw [if_pos q, if_pos q]; exact h
  · rw [if_neg q, if_neg q]; exact h.lp _
theorem LR.k1 {a b : CS} (h : LR a b) : LR (lk1 a) (lk1 b) := by
  have e : b 11 3 4 = a 11 3 4 := by obtain ⟨-, n, -, ea, eb, -⟩ := h; rw [ea, eb]
  show LR (if a 11 3 4 ≤ 0 then a else lpS a 32) (if b 11 3 4 ≤ 0 then b else lpS b 32)
  by_cases q : a 11 3 4 ≤ 0
  · rw [if_pos q, if_pos (by rw [e]; exact q)]; exact h
  · rw [if_neg q, if_neg (by rw [e]; exact q)]; exact h.lp _
theorem LR.lk {a b : CS} (h : LR a b) (x y z : Int32) : LR (lkS a x y z) (lkS b x y z) := by
  have h2 : LR (lk2 a x y) (lk2 b x y) := by
    unfold lk2
    exact ((h.k1.ln _).lp _).ln _
  unfold lkS
  by_cases q : z = 0
  · rw [if_pos q, if_pos q]; exact h2
  · rw [if_neg q, if_neg q]; exact (h2.lp _).ln _
theorem LR.li {a b : CS} (h : LR a b) (k : Nat) (x : Int32) : LR (liS x k a) (liS x k b) := by
  unfold liS
  rw [h.1]
  by_cases q : drawnF (b 0) (nI k) x = -1
  · rw [if_pos q, if_pos q]; exact h
  · rw [if_neg q, if_neg q]; exact h.lk _ _ _
theorem LR.lw {a b : CS} {bs : List Int32} : ∀ n, LR a b → LR (lwS bs a n) (lwS bs b n)
  | 0, h => h
  | n + 1, h => (LR.lw n h).lp _
theorem LR.of {a b : CS} (h : a 0 = b 0) (x : Int32) : LR (li2 a x) (li2 b x) := by
  have h1 : LR (li1 a x) (li1 b x) := by
    unfold li1
    rw [h]
    have h0 : LR (upS a 4 0) (upS b 4 0) := ⟨by rw [upS_f (by omega), upS_f (by omega), h], 0, by omega, rfl, rfl, fun i hi => absurd hi (Nat.not_lt_zero _)⟩
    exact itr_rel (R := fun _ a b => LR a b) h0 _ (fun k a b _ hR => hR.li k x)
  have e : li1 b x 11 3 4 = li1 a x 11 3 4 := by obtain ⟨-, n, -, ea, eb, -⟩ := h1; rw [ea, eb]
  unfold li2
  by_cases q : li1 a x 11 3 4 = 0
  · rw [if_pos q, if_pos (by rw [e]; exact q)]; exact LR.lw 5 h1
  · rw [if_neg q, if_neg (by rw [e]; exact q)]; exact h1
theorem ac_z {a b : CS} (h : a 0 = b 0) : ∀ k, k < 15 → v_account a (nI k) = v_account b (nI k)
  | 0, _ => by
    unfold v_account
    rw [if_pos (show acOk (nI 0) from by decide), if_pos (show acOk (nI 0) from by decide)]
    unfold acV
    rw [if_pos (show nI 0 = 0 from rfl), if_pos (show nI 0 = 0 from rfl), h]
  | 1, _ => by
    unfold v_account
    rw [if_pos (show acOk (nI 1) from by decide), if_pos (show acOk (nI 1) from by decide)]
    unfold acV
    rw [if_neg (show ¬ nI 1 = 0 by decide), if_pos (show nI 1 = 1 from rfl), if_neg (show ¬ nI 1 = 0 by decide), if_pos (show nI 1 = 1 from rfl), h]
  | 2, _ => by
    unfold v_account
    rw [if_pos (show acOk (nI 2) from by decide), if_pos (show acOk (nI 2) from by decide)]
    unfold acV
    rw [if_neg (show ¬ nI 2 = 0 by decide), if_neg (show ¬ nI 2 = 1 by decide), if_pos (show nI 2 = 2 from rfl), if_neg (show ¬ nI 2 = 0 by decide), if_neg (show ¬ nI 2 = 1 by decide), if_pos (show nI 2 = 2 from rfl), h]
  | 3, _ => by
    unfold v_account
    rw [if_pos (show acOk (nI 3) from by decide), if_pos (show acOk (nI 3) from by decide)]
    unfold acV
    rw [if_neg (show ¬ nI 3 = 0 by decide), if_neg (show ¬ nI 3 = 1 by decide), if_neg (show ¬ nI 3 = 2 by decide), if_pos (show nI 3 = 3 from rfl), if_neg (show ¬ nI 3 = 0 by decide), if_neg (show ¬ nI 3 = 1 by decide), if_neg (show ¬ nI 3 = 2 by decide), if_pos (show nI 3 = 3 from rfl), h]
  | 4, _ => by
    unfold v_account
    rw [if_pos (show acOk (nI 4) from by decide), if_pos (show acOk (nI 4) from by decide)]
    unfold acV
    rw [if_neg (show ¬ nI 4 = 0 by decide), if_neg (show ¬ nI 4 = 1 by decide), if_neg (show ¬ nI 4 = 2 by decide), if_neg (show ¬ nI 4 = 3 by decide), if_pos (show nI 4 = 4 from rfl), if_neg (show ¬ nI 4 = 0 by decide), if_neg (show ¬ nI 4 = 1 by decide), if_neg (show ¬ nI 4 = 2 by decide), if_neg (show ¬ nI 4 = 3 by decide), if_pos (show nI 4 = 4 from rfl), h]
  | 5, _ => by
    unfold v_account
    rw [if_pos (show acOk (nI 5) from by decide), if_pos (show acOk (nI 5) from by decide)]
    unfold acV
    rw [if_neg (show ¬ nI 5 = 0 by decide), if_neg (show ¬ nI 5 = 1 by decide), if_neg (show ¬ nI 5 = 2 by decide), if_neg (show ¬ nI 5 = 3 by decide), if_neg (show ¬ nI 5 = 4 by decide), if_pos (show nI 5 = 5 from rfl), if_neg (show ¬ nI 5 = 0 by decide), if_neg (show ¬ nI 5 = 1 by decide), if_neg (show ¬ nI 5 = 2 by decide), if_neg (show ¬ nI 5 = 3 by decide), if_neg (show ¬ nI 5 = 4 by decide), if_pos (show nI 5 = 5 from rfl), h]
  | 6, _ => by
    unfold v_account
    rw [if_pos (show acOk (nI 6) from by decide), if_pos (show acOk (nI 6) from by decide)]
    unfold acV
    rw [if_neg (show ¬ nI 6 = 0 by decide), if_neg (show ¬ nI 6 = 1 by decide), if_neg (show ¬ nI 6 = 2 by decide), if_neg (show ¬ nI 6 = 3 by decide), if_neg (show ¬ nI 6 = 4 by decide), if_neg (show ¬ nI 6 = 5 by decide), if_pos (show nI 6 = 6 from rfl), if_neg (show ¬ nI 6 = 0 by decide), if_neg (show ¬ nI 6 = 1 by decide), if_neg (show ¬ nI 6 = 2 by decide), if_neg (show ¬ nI 6 = 3 by decide), if_neg (show ¬ nI 6 = 4 by decide), if_neg (show ¬ nI 6 = 5 by decide), if_pos (show nI 6 = 6 from rfl), h]
  | 7, _ => by
    unfold v_account
    rw [if_pos (show acOk (nI 7) from by decide), if_pos (show acOk (nI 7) from by decide)]
    unfold acV
    rw [if_neg (show ¬ nI 7 = 0 by decide), if_neg (show ¬ nI 7 = 1 by decide), if_neg (show ¬ nI 7 = 2 by decide), if_neg (show ¬ nI 7 = 3 by decide), if_neg (show ¬ nI 7 = 4 by decide), if_neg (show ¬ nI 7 = 5 by decide), if_neg (show ¬ nI 7 = 6 by decide), if_pos (show nI 7 = 7 from rfl), if_neg (show ¬ nI 7 = 0 by decide), if_neg (show ¬ nI 7 = 1 by decide), if_neg (show ¬ nI 7 = 2 by decide), if_neg (show ¬ nI 7 = 3 by decide), if_neg (show ¬ nI 7 = 4 by decide), if_neg (show ¬ nI 7 = 5 by decide), if_neg (show ¬ nI 7 = 6 by decide), if_pos (show nI 7 = 7 from rfl), h]
  | 8, _ => by
    unfold v_account
    rw [if_pos (show acOk (nI 8) from by decide), if_pos (show acOk (nI 8) from by decide)]
    unfold acV
    rw [if_neg (show ¬ nI 8 = 0 by decide), if_neg (show ¬ nI 8 = 1 by decide), if_neg (show ¬ nI 8 = 2 by decide), if_neg (show ¬ nI 8 = 3 by decide), if_neg (show ¬ nI 8 = 4 by decide), if_neg (show ¬ nI 8 = 5 by decide), if_neg (show ¬ nI 8 = 6 by decide), if_neg (show ¬ nI 8 = 7 by decide), if_pos (show nI 8 = 8 from rfl), if_neg (show ¬ nI 8 = 0 by decide), if_neg (show ¬ nI 8 = 1 by decide), if_neg (show ¬ nI 8 = 2 by decide), if_neg (show ¬ nI 8 = 3 by decide), if_neg (show ¬ nI 8 = 4 by decide), if_neg (show ¬ nI 8 = 5 by decide), if_neg (show ¬ nI 8 = 6 by decide), if_neg (show ¬ nI 8 = 7 by decide), if_pos (show nI 8 = 8 from rfl), h]
  | 9, _ => by
    unfold v_account
    rw [if_pos (show acOk (nI 9) from by decide), if_pos (show acOk (nI 9) from by decide)]
    unfold acV
    rw [if_neg (show ¬ nI 9 = 0 by decide), if_neg (show ¬ nI 9 = 1 by decide), if_neg (show ¬ nI 9 = 2 by decide), if_neg (show ¬ nI 9 = 3 by decide), if_neg (show ¬ nI 9 = 4 by decide), if_neg (show ¬ nI 9 = 5 by decide), if_neg (show ¬ nI 9 = 6 by decide), if_neg (show ¬ nI 9 = 7 by decide), if_neg (show ¬ nI 9 = 8 by decide), if_pos (show nI 9 = 9 from rfl), if_neg (show ¬ nI 9 = 0 by decide), if_neg (show ¬ nI 9 = 1 by decide), if_neg (show ¬ nI 9 = 2 by decide), if_neg (show ¬ nI 9 = 3 by decide), if_neg (show ¬ nI 9 = 4 by decide), if_neg (show ¬ nI 9 = 5 by decide), if_neg (show ¬ nI 9 = 6 by decide), if_neg (show ¬ nI 9 = 7 by decide), if_neg (show ¬ nI 9 = 8 by decide), if_pos (show nI 9 = 9 from rfl), h]
  | 10, _ => by
    unfold v_account
    rw [if_pos (show acOk (nI 10) from by decide), if_pos (show acOk (nI 10) from by decide)]
    unfold acV
    rw [if_neg (show ¬ nI 10 = 0 by decide), if_neg (show ¬ nI 10 = 1 by decide), if_neg (show ¬ nI 10 = 2 by decide), if_neg (show ¬ nI 10 = 3 by decide), if_neg (show ¬ nI 10 = 4 by decide), if_neg (show ¬ nI 10 = 5 by decide), if_neg (show ¬ nI 10 = 6 by decide), if_neg (show ¬ nI 10 = 7 by decide), if_neg (show ¬ nI 10 = 8 by decide), if_neg (show ¬ nI 10 = 9 by decide), if_pos (show nI 10 = 10 from rfl), if_neg (show ¬ nI 10 = 0 by decide), if_neg (show ¬ nI 10 = 1 by decide), if_neg (show ¬ nI 10 = 2 by decide), if_neg (show ¬ nI 10 = 3 by decide), if_neg (show ¬ nI 10 = 4 by decide), if_neg (show ¬ nI 10 = 5 by decide), if_neg (show ¬ nI 10 = 6 by decide), if_neg (show ¬ nI 10 = 7 by decide), if_neg (show ¬ nI 10 = 8 by decide), if_neg (show ¬ nI 10 = 9 by decide), if_pos (show nI 10 = 10 from rfl), h]
  | 11, _ => by
    unfold v_account
    rw [if_pos (show acOk (nI 11) from by decide), if_pos (show acOk (nI 11) from by decide)]
    unfold acV
    rw [if_neg (show ¬ nI 11 = 0 by decide), if_neg (show ¬ nI 11 = 1 by decide), if_neg (show ¬ nI 11 = 2 by decide), if_neg (show ¬ nI 11 = 3 by decide), if_neg (show ¬ nI 11 = 4 by decide), if_neg (show ¬ nI 11 = 5 by decide), if_neg (show ¬ nI 11 = 6 by decide), if_neg (show ¬ nI 11 = 7 by decide), if_neg (show ¬ nI 11 = 8 by decide), if_neg (show ¬ nI 11 = 9 by decide), if_neg (show ¬ nI 11 = 10 by decide), if_pos (show nI 11 = 11 from rfl), if_neg (show ¬ nI 11 = 0 by decide), if_neg (show ¬ nI 11 = 1 by decide), if_neg (show ¬ nI 11 = 2 by decide), if_neg (show ¬ nI 11 = 3 by decide), if_neg (show ¬ nI 11 = 4 by decide), if_neg (show ¬ nI 11 = 5 by decide), if_neg (show ¬ nI 11 = 6 by decide), if_neg (show ¬ nI 11 = 7 by decide), if_neg (show ¬ nI 11 = 8 by decide), if_neg (show ¬ nI 11 = 9 by decide), if_neg (show ¬ nI 11 = 10 by decide), if_pos (show nI 11 = 11 from rfl), h]
  | 12, _ => by
    unfold v_account
    rw [if_pos (show acOk (nI 12) from by decide), if_pos (show acOk (nI 12) from by decide)]
    unfold acV
    rw [if_neg (show ¬ nI 12 = 0 by decide), if_neg (show ¬ nI 12 = 1 by decide), if_neg (show ¬ nI 12 = 2 by decide), if_neg (show ¬ nI 12 = 3 by decide), if_neg (show ¬ nI 12 = 4 by decide), if_neg (show ¬ nI 12 = 5 by decide), if_neg (show ¬ nI 12 = 6 by decide), if_neg (show ¬ nI 12 = 7 by decide), if_neg (show ¬ nI 12 = 8 by decide), if_neg (show ¬ nI 12 = 9 by decide), if_neg (show ¬ nI 12 = 10 by decide), if_neg (show ¬ nI 12 = 11 by decide), if_pos (show nI 12 = 12 from rfl), if_neg (show ¬ nI 12 = 0 by decide), if_neg (show ¬ nI 12 = 1 by decide), if_neg (show ¬ nI 12 = 2 by decide), if_neg (show ¬ nI 12 = 3 by decide), if_neg (show ¬ nI 12 = 4 by decide), if_neg (show ¬ nI 12 = 5 by decide), if_neg (show ¬ nI 12 = 6 by decide), if_neg (show ¬ nI 12 = 7 by decide), if_neg (show ¬ nI 12 = 8 by decide), if_neg (show ¬ nI 12 = 9 by decide), if_neg (show ¬ nI 12 = 10 by decide), if_neg (show ¬ nI 12 = 11 by decide), if_pos (show nI 12 = 12 from rfl), h]
  | 13, _ => by
    unfold v_account
    rw [if_pos (show acOk (nI 13) from by decide), if_pos (show acOk (nI 13) from by decide)]
    unfold acV
    rw [if_neg (show ¬ nI 13 = 0 by decide), if_neg (show ¬ nI 13 = 1 by decide), if_neg (show ¬ nI 13 = 2 by decide), if_neg (show ¬ nI 13 = 3 by decide), if_neg (show ¬ nI 13 = 4 by decide), if_neg (show ¬ nI 13 = 5 by decide), if_neg (show ¬ nI 13 = 6 by decide), if_neg (show ¬ nI 13 = 7 by decide), if_neg (show ¬ nI 13 = 8 by decide), if_neg (show ¬ nI 13 = 9 by decide), if_neg (show ¬ nI 13 = 10 by decide), if_neg (show ¬ nI 13 = 11 by decide), if_neg (show ¬ nI 13 = 12 by decide), if_pos (show nI 13 = 13 from rfl), if_neg (show ¬ nI 13 = 0 by decide), if_neg (show ¬ nI 13 = 1 by decide), if_neg (show ¬ nI 13 = 2 by decide), if_neg (show ¬ nI 13 = 3 by decide), if_neg (show ¬ nI 13 = 4 by decide), if_neg (show ¬ nI 13 = 5 by decide), if_neg (show ¬ nI 13 = 6 by decide), if_neg (show ¬ nI 13 = 7 by decide), if_neg (show ¬ nI 13 = 8 by decide), if_neg (show ¬ nI 13 = 9 by decide), if_neg (show ¬ nI 13 = 10 by decide), if_neg (show ¬ nI 13 = 11 by decide), if_neg (show ¬ nI 13 = 12 by decide), if_pos (show nI 13 = 13 from rfl), h]
  | 14, _ => by
    unfold v_account
    rw [if_pos (show acOk (nI 14) from by decide), if_pos (show acOk (nI 14) from by decide)]
    unfold acV
    rw [if_neg (show ¬ nI 14 = 0 by decide), if_neg (show ¬ nI 14 = 1 by decide), if_neg (show ¬ nI 14 = 2 by decide), if_neg (show ¬ nI 14 = 3 by decide), if_neg (show ¬ nI 14 = 4 by decide), if_neg (show ¬ nI 14 = 5 by decide), if_neg (show ¬ nI 14 = 6 by decide), if_neg (show ¬ nI 14 = 7 by decide), if_neg (show ¬ nI 14 = 8 by decide), if_neg (show ¬ nI 14 = 9 by decide), if_neg (show ¬ nI 14 = 10 by decide), if_neg (show ¬ nI 14 = 11 by decide), if_neg (show ¬ nI 14 = 12 by decide), if_neg (show ¬ nI 14 = 13 by decide), if_pos (show nI 14 = 14 from rfl), if_neg (show ¬ nI 14 = 0 by decide), if_neg (show ¬ nI 14 = 1 by decide), if_neg (show ¬ nI 14 = 2 by decide), if_neg (show ¬ nI 14 = 3 by decide), if_neg (show ¬ nI 14 = 4 by decide), if_neg (show ¬ nI 14 = 5 by decide), if_neg (show ¬ nI 14 = 6 by decide), if_neg (show ¬ nI 14 = 7 by decide), if_neg (show ¬ nI 14 = 8 by decide), if_neg (show ¬ nI 14 = 9 by decide), if_neg (show ¬ nI 14 = 10 by decide), if_neg (show ¬ nI 14 = 11 by decide), if_neg (show ¬ nI 14 = 12 by decide), if_neg (show ¬ nI 14 = 13 by decide), if_pos (show nI 14 = 14 from rfl), h]
  | k + 15, hk => absurd hk (by omega)
theorem vz_drawnAt {a b : CS} (h : a 0 = b 0) (i j : Int32) : v_drawnAt a i j = v_drawnAt b i j := by
  unfold v_drawnAt
  rw [h]
theorem vz_seems {a b : CS} (h : a 0 = b 0) (i j : Int32) : v_seems a i j = v_seems b i j := by
  unfold v_seems
  rw [h]
theorem vz_seemsAgain {a b : CS} (h : a 0 = b 0) (i j : Int32) : v_seemsAgain a i j = v_seemsAgain b i j := by
  unfold v_seemsAgain
  rw [h]
theorem vz_shimmers {a b : CS} (h : a 0 = b 0) (i j : Int32) : v_shimmers a i j = v_shimmers b i j := by
  unfold v_shimmers
  rw [h]
theorem vz_clearIn {a b : CS} (h : a 0 = b 0) (i j : Int32) : v_clearIn a i j = v_clearIn b i j := by
  unfold v_clearIn
  rw [h]
theorem vz_stakeAt {a b : CS} (h : a 0 = b 0) (i : Int32) : v_stakeAt a i = v_stakeAt b i := by
  unfold v_stakeAt
  rw [h]
theorem vz_bestPost {a b : CS} (h : a 0 = b 0) (i : Int32) : v_bestPost a i = v_bestPost b i := by
  unfold v_bestPost
  rw [h]
theorem vz_postOf {a b : CS} (h : a 0 = b 0) (i j : Int32) : v_postOf a i j = v_postOf b i j := by
  unfold v_postOf
  rw [h]
theorem vz_camelOf {a b : CS} (h : a 0 = b 0) (i j : Int32) : v_camelOf a i j = v_camelOf b i j := by
  unfold v_camelOf
  rw [h]
theorem vz_lostIn {a b : CS} (h : a 0 = b 0) (i : Int32) : v_lostIn a i = v_lostIn b i := by
  unfold v_lostIn
  rw [h]
theorem vz_wrongBy {a b : CS} (h : a 0 = b 0) (i : Int32) : v_wrongBy a i = v_wrongBy b i := by
  unfold v_wrongBy
  rw [h]
theorem vz_heatIn {a b : CS} (h : a 0 = b 0) (i : Int32) : v_heatIn a i = v_heatIn b i := by
  unfold v_heatIn
  rw [h]
theorem vz_nearest {a b : CS} (h : a 0 = b 0) (i : Int32) : v_nearest a i = v_nearest b i := by
  unfold v_nearest
  rw [h]
theorem vz_rightShare {a b : CS} (h : a 0 = b 0) : v_rightShare a = v_rightShare b := by
  unfold v_rightShare
  rw [h]
theorem vz_meanThirst {a b : CS} (h : a 0 = b 0) : v_meanThirst a = v_meanThirst b := by
  unfold v_meanThirst
  rw [h]
theorem s_line_0 {c : CS} {i : Int32} : s_line c i 0 = c 0 := by
  unfold s_line
  split
  · unfold li2
    split
    · exact (itr_keep (fun k c => lpS c (chI blB k)) (fun c => c 0) (fun _ _ => lpS_0) _ 5).trans li_0
    · exact li_0
  · rfl
theorem vz_line {a b : CS} (h : a 0 = b 0) (i : Int32) : v_line a i = v_line b i := by
  unfold v_line
  rw [h]
  obtain ⟨-, n, -, ea, eb, -⟩ := LR.of h i
  rw [ea, eb]
theorem vz_char {a b : CS} {n k : Nat} (hn : n ≤ 79) (ea : a 11 3 4 = nI n) (eb : b 11 3 4 = nI n) (hi : ∀ i, i < n → a 11 2 i = b 11 2 i) (hk : k < n) : v_character a (nI k) = v_character b (nI k) := by
  unfold v_character
  rw [ea, eb, nI_clamp (by omega), hi k hk]
/-- a sheet's part is the flat's -/
theorem as5_z {a b : CS} {x : Int64} (k : Nat) (h : a 0 = b 0) : (as5 k (x, a)).1 = (as5 k (x, b)).1 ∧ (as5 k (x, a)).2 0 = (as5 k (x, b)).2 0 := by
  refine ⟨?_, by show s_line a (nI k) 0 = s_line b (nI k) 0; rw [s_line_0, s_line_0, h]⟩
  show itr (as5c (s_line a (nI k))) (31 * x + (v_wrongBy a (nI k)).toInt64) (v_line a (nI k)).toNatClampNeg = itr (as5c (s_line b (nI k))) (31 * x + (v_wrongBy b (nI k)).toInt64) (v_line b (nI k)).toNatClampNeg
  rw [vz_wrongBy h, vz_line h]
  refine itr_congr _ (fun j y hj => ?_)
  unfold as5c
  by_cases q : hasSh (b 0) (nI k)
  · obtain ⟨-, n, hn, ea, eb, hi⟩ := LR.of h (nI k)
    have sa : s_line a (nI k) = li2 a (nI k) := by unfold s_line; rw [if_pos (by rw [h]; exact q)]
    have sb : s_line b (nI k) = li2 b (nI k) := by unfold s_line; rw [if_pos q]
    have vb : v_line b (nI k) = nI n := by unfold v_line; rw [if_pos q, eb]
    rw [vb, nI_clamp (by omega)] at hj
    rw [sa, sb, vz_char hn ea eb hi hj]
  · have vb : v_line b (nI k) = -1001 := by unfold v_line; rw [if_neg q]
    rw [vb, show (-1001 : Int32).toNatClampNeg = 0 by decide] at hj
    exact absurd hj (Nat.not_lt_zero _)
theorem itr_congr2 {α : Type} {st st' : Nat → α → α} {a a' : α} (n : Nat) (h : ∀ k x, k < n → st k x = st' k x) (e : a = a') : itr st a n = itr st' a' n := by
  subst e
  exact itr_congr n h
theorem askV_z {a b : CS} {ns np nh nc : Nat} (h : a 0 = b 0) : askV a ns np nh nc = askV b ns np nh nc ∧ askS a ns np nh nc 0 = a 0 := by
  have h0 : as0 a = as0 b := by unfold as0; rw [vz_rightShare h, vz_meanThirst h]
  have hA : asA a ns np nh nc = asA b ns np nh nc := by
    unfold asA
    refine itr_congr2 _ (fun k x _ => ?_) (itr_congr2 _ (fun k x _ => ?_) (itr_congr2 _ (fun k x _ => ?_) (itr_congr2 _ (fun k x hk => ?_) h0)))
    · unfold as4
      have e5 : itr (as4w a k) x 5 = itr (as4w b k) x 5 := itr_congr2 5 (fun j y _ => by unfold as4w; rw [vz_camelOf h]) rfl
      rw [vz_lostIn h, e5]
    · unfold as3
      rw [vz_postOf h, vz_postOf h]
    · unfold as2
      refine itr_congr2 _ (fun j y _ => ?_) (itr_congr2 _ (fun j y _ => ?_) ?_)
      · unfold as2p
        rw [vz_seems h, vz_seemsAgain h, vz_shimmers h, vz_clearIn h]
      · unfold as2h
        rw [vz_drawnAt h]
      · rw [vz_stakeAt h, vz_bestPost h]
    · unfold as1
      rw [ac_z h k hk]
  have hB := itr_rel (st := as5) (st' := as5) (a := (asA a ns np nh nc, a)) (b := (asA b ns np nh nc, b)) (R := fun _ p q => p.1 = q.1 ∧ p.2 0 = q.2 0 ∧ p.2 0 = a 0) ⟨hA, h, rfl⟩ nh (fun k p q _ hR => by
    obtain ⟨x, u⟩ := p
    obtain ⟨y, v⟩ := q
    obtain ⟨e1, e2, e3⟩ := hR
    have e1 : x = y := e1
    subst e1
    obtain ⟨r1, r2⟩ := as5_z (x := x) k e2
    exact ⟨r1, r2, by show s_line u (nI k) 0 = _; rw [s_line_0]; exact e3⟩)
  obtain ⟨e1, e2, e3⟩ := hB
  refine ⟨?_, e3⟩
  unfold askV asF
  show 31 * (31 * (31 * (asB a ns np nh nc).1 + _) + _) + _ = 31 * (31 * (31 * (asB b ns np nh nc).1 + _) + _) + _
  rw [show (asB a ns np nh nc).1 = (asB b ns np nh nc).1 from e1, vz_heatIn (show (asB a ns np nh nc).2 0 = (asB b ns np nh nc).2 0 from e2), vz_nearest (show (asB a ns np nh nc).2 0 = (asB b ns np nh nc).2 0 from e2), vz_nearest (show (asB a ns np nh nc).2 0 = (asB b ns np nh nc).2 0 from e2)]
/-! what asks leaves as it was -/
def LnE (a b : CS) : Prop := (∀ k, k ≠ 11 → b k = a k) ∧ (∀ k, k ≠ 2 → k ≠ 3 → b 11 k = a 11 k) ∧ ∀ j, j ≠ 4 → b 11 3 j = a 11 3 j
theorem LnE.rf {a : CS} : LnE a a := ⟨fun _ _ => rfl, fun _ _ _ => rfl, fun _ _ => rfl⟩
theorem LnE.tr {a b c : CS} (h : LnE a b) (k : LnE b c) : LnE a c := ⟨fun i hi => (k.1 i hi).trans (h.1 i hi), fun i h2 h3 => (k.2.1 i h2 h3).trans (h.2.1 i h2 h3), fun j hj => (k.2.2 j hj).trans (h.2.2 j hj)⟩
/-- the line's own numbers -/
def LnO (c : CS) : Prop := lsOk c ∧ ∃ n, n ≤ 79 ∧ c 11 3 4 = nI n
theorem lp_E {c : CS} {v : Int32} (hv : chOk v) (h : LnO c) : LnE c (lpS c v) ∧ LnO (lpS c v) := by
  obtain ⟨h1, n, hn, e⟩ := h
  unfold lpS
  by_cases q : n < 79
  · rw [if_pos (by rw [e]; exact ⟨nI_pos (by omega), nI_ge q (by decide)⟩), upA_s (by omega), e, nI_clamp (by omega), nI_1]
    refine ⟨⟨fun k hk => by rw [upS_f hk, upA_f hk], fun k k2 k3 => by rw [upS_r k3, upA_r k2], fun j hj => by rw [upS_s hj, upA_s (by omega)]⟩, fun k => ?_, n + 1, by omega, rfl⟩
    rw [upS_r (by omega), upA_at]
    by_cases hk : k = n
    · subst hk; rw [upd_at]; exact hv
    · rw [upd_ne hk]; exact h1 k
  · rw [if_neg (by rw [e]; exact fun z => z.2 (nI_le (by omega) (by omega)))]
    exact ⟨LnE.rf, h1, n, hn, e⟩
def LnP (a b : CS) : Prop := LnE a b ∧ LnO b
theorem LnP.lp {a b : CS} {v : Int32} (h : LnP a b) (hv : chOk v) : LnP a (lpS b v) := ⟨h.1.tr (lp_E hv h.2).1, (lp_E hv h.2).2⟩
theorem LnP.ln {a b : CS} {v : Int32} (h : LnP a b) : LnP a (lnS b v) := by
  unfold lnS
  refine LnP.lp ?_ (c2I_ok _)
  by_cases q : v < 10
  · rw [if_pos q]; exact h
  · rw [if_neg q]; exact h.lp (c2I_ok _)
theorem LnP.lk {a b : CS} {x y z : Int32} (h : LnP a b) : LnP a (lkS b x y z) := by
  have h1 : LnP a (lk1 b) := by
    show LnP a (if b 11 3 4 ≤ 0 then b else lpS b 32)
    by_cases q : b 11 3 4 ≤ 0
    · rw [if_pos q]; exact h
    · rw [if_neg q]; exact h.lp rfl
  have h2 : LnP a (lk2 b x y) := by
    unfold lk2
    refine LnP.ln (LnP.lp h1.ln ?_)
    rfl
  unfold lkS
  by_cases q : z = 0
  · rw [if_pos q]; exact h2
  · rw [if_neg q]
    refine LnP.ln (h2.lp ?_)
    by_cases q2 : z ≤ 0
    · rw [if_pos q2]; rfl
    · rw [if_neg q2]; rfl
theorem LnP.li {a b : CS} {k : Nat} {x : Int32} (h : LnP a b) : LnP a (liS x k b) := by
  unfold liS
  by_cases q : drawnF (b 0) (nI k) x = -1
  · rw [if_pos q]; exact h
  · rw [if_neg q]; exact h.lk
theorem blB_ok : ∀ k, chOk (chI blB k) := by
  intro k
  unfold chI
  have h : ∀ j, j < 5 → chOk (blB.getD j 0 &&& 255) := by
    intro j hj
    match j, hj with
    | 0, _ => rfl
    | 1, _ => rfl
    | 2, _ => rfl
    | 3, _ => rfl
    | 4, _ => rfl
  rcases Nat.lt_or_ge k 5 with hk | hk
  · exact h k hk
  · rw [List.getD_eq_getElem?_getD, List.getElem?_eq_none (show blB.length ≤ k from hk)]; rfl
theorem LnP.lw {a : CS} : ∀ (n : Nat) (b : CS), LnP a b → LnP a (lwS blB b n)
  | 0, _, h => h
  | n + 1, b, h => (LnP.lw n b h).lp (blB_ok n)
theorem LnP.l2 {a b : CS} {x : Int32} (h : LnP a b) : LnP a (li2 b x) := by
  have h0 : LnP a (upS b 4 0) := ⟨h.1.tr ⟨fun k hk => upS_f hk, fun k _ k3 => upS_r k3, fun j hj => upS_s hj⟩, fun k => by rw [upS_r (by omega)]; exact h.2.1 k, 0, by omega, rfl⟩
  have h1 : LnP a (li1 b x) := by
    show LnP a (itr (liS x) (upS b 4 0) _)
    generalize (b 0 8 0).toNatClampNeg = n
    induction n with
    | zero => exact h0
    | succ n ih => exact ih.li
  show LnP a (if li1 b x 11 3 4 = 0 then lwS blB (li1 b x) 5 else li1 b x)
  by_cases q : li1 b x 11 3 4 = 0
  · rw [if_pos q]; exact LnP.lw 5 _ h1
  · rw [if_neg q]; exact h1
theorem LnP.line {a b : CS} {x : Int32} (h : LnP a b) : LnP a (s_line b x) := by
  unfold s_line
  by_cases q : hasSh (b 0) x
  · rw [if_pos q]; exact h.l2
  · rw [if_neg q]; exact h
theorem askS_P {a : CS} {ns np nh nc : Nat} (h : LnO a) : LnP a (askS a ns np nh nc) := by
  unfold askS asB
  have h1 : ∀ n, LnP a (itr as5 (asA a ns np nh nc, a) n).2 := by
    intro n
    induction n with
    | zero => exact ⟨LnE.rf, h⟩
    | succ n ih => exact LnP.line ih
  exact h1 nh
