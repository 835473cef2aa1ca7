/-! THE CLASS: its words, its contracts -/
/-- what a change does to the flat: what it answers and the flat then, or the reason and its detail -/
abbrev OR : Type := (Int32 × FL) ⊕ (Int32 × Int32)
def rfS (cs : CS) (k d : Int32) : CS := upS (upS (upS cs 10 k) 11 d) 12 (cs 11 3 9)
def rvC : OR → Int32
  | .inl q => q.1
  | .inr _ => -1
def rsC (cs : CS) : OR → CS
  | .inl q => upC cs 0 q.2
  | .inr q => rfS cs q.1 q.2
theorem rvC_l {v : Int32} {fl : FL} : rvC (.inl (v, fl)) = v := rfl
theorem rvC_r {k d : Int32} : rvC (.inr (k, d)) = -1 := rfl
theorem rsC_l {cs : CS} {v : Int32} {fl : FL} : rsC cs (.inl (v, fl)) = upC cs 0 fl := rfl
theorem rsC_r {cs : CS} {k d : Int32} : rsC cs (.inr (k, d)) = rfS cs k d := rfl
def bgS (cs : CS) : CS := upS (upC cs 1 (cs 0)) 9 0
theorem nxOk_of {a b : CS} (h : nxOk a) (e : b 11 3 6 = a 11 3 6) : nxOk b := by
  unfold nxOk
  rw [e]
  exact h
theorem rsC_11 {cs : CS} {r : OR} {i : Nat} (h0 : i ≠ 10) (h1 : i ≠ 11) (h2 : i ≠ 12) : rsC cs r 11 3 i = cs 11 3 i := by
  cases r with
  | inl q => rfl
  | inr q =>
    show rfS cs q.1 q.2 11 3 i = _
    unfold rfS
    rw [upS_s h2, upS_s h1, upS_s h0]
theorem rsC_r1 {cs : CS} {r : OR} {k : Nat} (h : k ≠ 3) : rsC cs r 11 k = cs 11 k := by
  cases r with
  | inl q => rfl
  | inr q =>
    show rfS cs q.1 q.2 11 k = _
    unfold rfS
    rw [upS_r h, upS_r h, upS_r h]
theorem rsC_f {cs : CS} {r : OR} {k : Nat} (h : k ≠ 0) (h11 : k ≠ 11) : rsC cs r k = cs k := by
  cases r with
  | inl q => exact upC_ne h
  | inr q =>
    show rfS cs q.1 q.2 k = _
    unfold rfS
    rw [upS_f h11, upS_f h11, upS_f h11]
theorem bg_6 {cs : CS} {r : OR} : rsC (bgS cs) r 11 3 6 = cs 11 3 6 := (rsC_11 (by omega) (by omega) (by omega)).trans rfl
def rAdd (fl : FL) (k n : Nat) (v : Int32) : FL := upR fl k (if rroom n (fl 8 k) then fl 8 k + 1 else fl 8 k) (if rroom n (fl 8 k) then upd (fl k) (fl 8 k).toNatClampNeg v else fl k)
def rAddV (fl : FL) (k n : Nat) : Int32 := if rroom n (fl 8 k) then fl 8 k + 1 - 1 else -1
def dsO (fl : FL) (p : Int32) : OR := if ¬ isPl p then .inr (1, 0) else if ¬ fl 8 0 < nI 10 then .inr (2, 10) else if ¬ rfind 10 (fl 8 0) (fl 0) p = -1 then .inr (4, rfind 10 (fl 8 0) (fl 0) p) else .inl (rAddV fl 0 10, rAdd fl 0 10 p)
def spO (fl : FL) (p h : Int32) : OR := if ¬ isPl p ∨ h < 1 ∨ ¬ h ≤ 9 then .inr (1, 0) else if ¬ fl 8 1 < nI 4 then .inr (2, 4) else .inl (rAddV (rAdd fl 2 4 h) 1 4, rAdd (rAdd fl 2 4 h) 1 4 p)
def asO (fl : FL) : OR := if ¬ fl 9 0 < 3 then .inr (2, 3) else .inl (up2 fl 9 0 (fl 9 0 + 1) 9 0 - 1, up2 fl 9 0 (fl 9 0 + 1))
def shO (fl : FL) (h : Int32) : OR := if h < 0 ∨ ¬ h ≤ 9 then .inr (1, 0) else .inl (hNow (up2 fl 9 2 h), up2 fl 9 2 h)
def sgF (fl : FL) (s h v : Int32) : FL := up1 fl 3 (rset 30 (fl 8 3) (fl 3) (h * 10 + s) v)
def sgO (fl : FL) (s p h : Int32) : OR := if ¬ rin 10 (fl 8 0) s then .inr (3, s) else if ¬ rin 4 (fl 8 1) p then .inr (3, p) else if ¬ hasSh fl h then .inr (3, h) else if ¬ htmF fl s p ≤ 0 then .inr (5, htmF fl s p) else .inl (seemF fl s p, up2 (sgF fl s h (seemF fl s p)) 9 4 (sgF fl s h (seemF fl s p) 9 4 + 1))
def erO (fl : FL) (s h : Int32) : OR := if ¬ rin 10 (fl 8 0) s then .inr (3, s) else if ¬ hasSh fl h then .inr (3, h) else if drawnF fl s h = -1 then .inr (6, s) else .inl (drawnF fl s h, sgF fl s h (-1))
def caO (fl : FL) (p : Int32) : OR := if ¬ isPl p then .inr (1, 0) else if ¬ fl 8 4 < nI 6 then .inr (2, 6) else .inl (rAddV (rAdd (rAdd (rAdd fl 5 6 0) 6 6 0) 7 6 0) 4 6, rAdd (rAdd (rAdd (rAdd fl 5 6 0) 6 6 0) 7 6 0) 4 6 p)
def rbS (p : Int32) (k : Nat) (s : Int32 × FL) : Int32 × FL := (s.1 + (if gCa (callF s.2 (nI k) p) (nI k) = p then 1 else 0), callF s.2 (nI k) p)
def rbO (fl : FL) (p : Int32) : OR := if ¬ isPl p then .inr (1, 0) else .inl (itr (rbS p) (0, fl) (fl 8 4).toNatClampNeg)
theorem callF_8 {fl : FL} {c p : Int32} : callF fl c p 8 = fl 8 := by unfold callF; split <;> rfl
theorem rb_8 {cs : CS} {p n : Int32} {fl : FL} {k : Nat} : upC cs 0 (itr (rbS p) (n, fl) k).2 0 8 = fl 8 := by
  rw [upC_at]
  exact itr_keep (rbS p) (fun s => s.2 8) (fun _ _ => callF_8) (n, fl) k
abbrev tiF (fl : FL) (c v : Int32) : FL := up1 fl 6 (rset 6 (fl 8 6) (fl 6) c v)
def tiO (fl : FL) (c : Int32) : OR := if ¬ rin 6 (fl 8 4) c then .inr (3, c) else if lostP fl c then .inr (8, gCa fl c) else if gTi fl c = 1 then .inr (7, c) else if fpF fl (gCa fl c) = -1 ∨ ¬ fpF fl (gCa fl c) ≤ 5 then .inr (11, if fpF fl (gCa fl c) = -1 then 0 else fpF fl (gCa fl c)) else .inl (rsum 6 (tiF fl c 1 8 6) (tiF fl c 1 6), tiF fl c 1)
def loO (fl : FL) (c : Int32) : OR := if ¬ rin 6 (fl 8 4) c then .inr (3, c) else if gTi fl c = 0 then .inr (7, c) else .inl (rsum 6 (tiF fl c 0 8 6) (tiF fl c 0 6), tiF fl c 0)
abbrev cupI (fl : FL) (c : Int32) : Int32 := (gTh fl c + 1) / 2
abbrev wc1 (fl : FL) (c : Int32) : FL := up2 fl 9 3 (fl 9 3 - cupI fl c)
abbrev wc2 (fl : FL) (c : Int32) : FL := up1 (wc1 fl c) 5 (rset 6 (wc1 fl c 8 5) (wc1 fl c 5) c 0)
abbrev wc3 (fl : FL) (c : Int32) : FL := up1 (wc2 fl c) 7 (rset 6 (wc2 fl c 8 7) (wc2 fl c 7) c (gDk (wc2 fl c) c + cupI fl c))
def wcO (fl : FL) (c : Int32) : OR := if ¬ rin 6 (fl 8 4) c then .inr (3, c) else if lostP fl c then .inr (8, gCa fl c) else if gTh fl c = 0 then .inr (10, c) else if ¬ cupI fl c ≤ fl 9 3 then .inr (9, cupI fl c - fl 9 3) else .inl (wc3 fl c 9 3, wc3 fl c)
def bwO (fl : FL) (u : Int32) : OR := if u < 1 ∨ ¬ u ≤ 100 then .inr (1, 0) else if ¬ fl 9 3 + u ≤ 200 then .inr (2, 200) else .inl (up2 fl 9 3 (fl 9 3 + u) 9 3, up2 fl 9 3 (fl 9 3 + u))
def phX (_ : Nat) (fl : FL) : FL := phF fl
def phO (fl : FL) (n : Int32) : OR := if n < 1 ∨ ¬ n ≤ 48 then .inr (1, 0) else .inl (clF (itr phX fl n.toNatClampNeg) - clF fl, itr phX fl n.toNatClampNeg)
abbrev gN (cs : CS) (i : Int32) : Int32 := rget 3 (cs 11 3 0) (cs 11 0) i
def coO (v a b d : Int32) (fl : FL) : OR := if v = 98 then rbO fl a else if v = 100 then wcO fl a else if v = 101 then erO fl a b else if v = 108 then loO fl a else if v = 115 then sgO fl a b d else if v = 116 then tiO fl a else phO fl a
def wbS (fl : FL) (h : Int32) (k : Nat) (n : Int32) : Int32 := n + if drawnF fl (nI k) h = -1 then 0 else absI (drawnF fl (nI k) h - gS fl (nI k))
def wbF (fl : FL) (h : Int32) : Int32 := itr (wbS fl h) 0 (fl 8 0).toNatClampNeg
def cmV (fl : FL) (c w : Int32) : Int32 := if w = 0 then gCa fl c else if w = 1 then gTh fl c else if w = 2 then gTi fl c else if w = 3 then (if lostP fl c then 1 else 0) else gDk fl c
abbrev cmOk (w : Int32) : Prop := w = 0 ∨ w = 1 ∨ w = 2 ∨ w = 3 ∨ w = 4
def rsV (cs : CS) (w : Int32) : Int32 := if w = 0 then cs 11 3 10 else if w = 1 then cs 11 3 11 else cs 11 3 12
abbrev acOk (w : Int32) : Prop := w = 0 ∨ w = 1 ∨ w = 2 ∨ w = 3 ∨ w = 4 ∨ w = 5 ∨ w = 6 ∨ w = 7 ∨ w = 8 ∨ w = 9 ∨ w = 10 ∨ w = 11 ∨ w = 12 ∨ w = 13 ∨ w = 14 ∨ w = 15 ∨ w = 16
def acV (cs : CS) (w : Int32) : Int32 := if w = 0 then cs 0 9 1 else if w = 1 then ofD (cs 0 9 1) else if w = 2 then hNow (cs 0) else if w = 3 then cs 0 9 2 else if w = 4 then cs 0 8 0 else if w = 5 then cs 0 8 1 else if w = 6 then cs 0 9 0 else if w = 7 then cdF (cs 0) 0 else if w = 8 then cs 0 8 4 else if w = 9 then rsum 6 (cs 0 8 6) (cs 0 6) else if w = 10 then clF (cs 0) else if w = 11 then cs 0 9 3 else if w = 12 then rsum 6 (cs 0 8 7) (cs 0 7) else if w = 13 then 30 - hNow (cs 0) else if w = 14 then cs 0 9 4 else if w = 15 then cs 11 3 5 else cs 11 3 1
def liS (h : Int32) (k : Nat) (cs : CS) : CS := if drawnF (cs 0) (nI k) h = -1 then cs else lkS cs (nI k) (drawnF (cs 0) (nI k) h) (drawnF (cs 0) (nI k) h - gS (cs 0) (nI k))
abbrev blB : List Int32 := [98, 108, 97, 110, 107]
def li1 (cs : CS) (h : Int32) : CS := itr (liS h) (upS cs 4 0) (cs 0 8 0).toNatClampNeg
def li2 (cs : CS) (h : Int32) : CS := if li1 cs h 11 3 4 = 0 then lwS blB (li1 cs h) 5 else li1 cs h
theorem lpS_0 {cs : CS} {v : Int32} : lpS cs v 0 = cs 0 := by unfold lpS; split <;> rfl
theorem lnS_0 {cs : CS} {v : Int32} : lnS cs v 0 = cs 0 := by
  unfold lnS
  rw [lpS_0]
  split
  · rfl
  · exact lpS_0
theorem lkS_0 {cs : CS} {a q t : Int32} : lkS cs a q t 0 = cs 0 := by
  unfold lkS lk2 lk1
  split
  · rw [lnS_0, lpS_0, lnS_0]; split; rfl; exact lpS_0
  · rw [lnS_0, lpS_0, lnS_0, lpS_0, lnS_0]; split; rfl; exact lpS_0
theorem liS_0 {h : Int32} {k : Nat} {cs : CS} : liS h k cs 0 = cs 0 := by
  unfold liS
  split
  · rfl
  · exact lkS_0
theorem li_0 {h : Int32} {cs : CS} {k : Nat} : itr (liS h) (upS cs 4 0) k 0 = cs 0 := itr_keep (liS h) (fun c => c 0) (fun _ _ => liS_0) (upS cs 4 0) k
/-- what the reading of a text keeps -/
def pSe (a b : CS) : Prop := (∀ k, k ≠ 11 → b k = a k) ∧ b 11 1 = a 11 1 ∧ b 11 2 = a 11 2 ∧ ∀ j, j ≠ 0 → j ≠ 2 → j ≠ 3 → b 11 3 j = a 11 3 j
theorem pSe.rf {a : CS} : pSe a a := ⟨fun _ _ => rfl, rfl, rfl, fun _ _ _ _ => rfl⟩
theorem pSe.tr {a b c : CS} (h : pSe a b) (k : pSe b c) : pSe a c := ⟨fun i hi => (k.1 i hi).trans (h.1 i hi), k.2.1.trans h.2.1, k.2.2.1.trans h.2.2.1, fun j h0 h2 h3 => (k.2.2.2 j h0 h2 h3).trans (h.2.2.2 j h0 h2 h3)⟩
theorem pSe_upS {cs : CS} {j : Nat} {v : Int32} (h : j = 0 ∨ j = 2 ∨ j = 3) : pSe cs (upS cs j v) := ⟨fun _ hk => upS_f hk, upS_r (by omega), upS_r (by omega), fun i h0 h2 h3 => upS_s (by omega)⟩
theorem pSe_upN {cs : CS} {z : Int32} {f : Nat → Int32} : pSe cs (upN cs z f) := by
  refine ⟨fun k hk => upC_ne hk, rfl, rfl, fun j h0 h2 h3 => ?_⟩
  unfold upN
  rw [upC_at, up2_ni h0, up1_ne (by omega)]
theorem pSe_dg {cs : CS} : pSe cs (dgS cs) := by unfold dgS; split; exact pSe_upS (by omega); exact pSe.rf
theorem pSe_rs {cs : CS} {v : Int32} : pSe cs (rsS cs v) := by unfold rsS; split; exact pSe_upS (by omega); exact pSe.rf
theorem pSe_rn {cs : CS} {o : Int32} : pSe cs (rnS cs o) := by
  unfold rnS
  split
  · exact pSe_dg
  · split
    · exact pSe_dg.tr pSe_upN
    · exact (pSe_dg.tr pSe_dg).tr pSe_upN
theorem pSe_rp {cs : CS} {v : Int32} : pSe cs (rpS cs v) := by unfold rpS; split; exact pSe_rn; exact pSe_rs
theorem pSe_rcL {b : List Int32} : ∀ (d k : Nat) (cs : CS), pSe cs (rcL b d k cs).2
  | 0, _, _ => pSe.rf
  | d + 1, k, cs => by
    unfold rcL
    split
    · exact pSe_rp.tr (pSe_rcL d (k + 1) _)
    · exact pSe_rp
theorem pSe_rc0 {cs : CS} : pSe cs (rc0 cs) := pSe_upN.tr (pSe_upS (by omega))
theorem pSe_rc {cs : CS} : pSe cs (rcS cs) := pSe_rc0.tr (pSe_rcL _ _ _)
theorem pSe_ccL : ∀ (d k : Nat) (cs : CS), pSe cs (ccL d k cs).2
  | 0, _, _ => pSe.rf
  | d + 1, k, cs => by
    unfold ccL
    split
    · exact pSe_rc
    · split
      · exact pSe_rc
      · split
        · exact pSe_rc.tr pSe_rs
        · exact (pSe_rc.tr pSe_rs).tr (pSe_ccL d (k + 1) _)
theorem pSe_cc {cs : CS} : pSe cs (ccS cs) := (pSe_upS (by omega)).tr (pSe_ccL _ _ _)
theorem k3_dg {cs : CS} : dgS cs 11 3 3 = cs 11 3 3 := by unfold dgS; split; exact upS_s (by omega); rfl
theorem k3_rs {cs : CS} {v : Int32} : rsS cs v 11 3 3 = cs 11 3 3 := by unfold rsS; split; exact upS_s (by omega); rfl
theorem k3_ad {cs : CS} {v : Int32} : addS cs v 11 3 3 = cs 11 3 3 := by
  unfold addS upN
  rw [upC_at, up2_ni (by omega), up1_ne (by omega)]
theorem k3_rn {cs : CS} {o : Int32} : rnS cs o 11 3 3 = cs 11 3 3 := by
  unfold rnS
  split
  · exact k3_dg
  · split
    · exact k3_ad.trans k3_dg
    · exact k3_ad.trans (k3_dg.trans k3_dg)
theorem k3_rp {cs : CS} {v : Int32} : rpS cs v 11 3 3 = cs 11 3 3 := by unfold rpS; split; exact k3_rn; exact k3_rs
theorem k3_rcL {b : List Int32} : ∀ (d k : Nat) (cs : CS), (rcL b d k cs).2 11 3 3 = cs 11 3 3
  | 0, _, _ => rfl
  | d + 1, k, cs => by
    unfold rcL
    split
    · exact (k3_rcL d (k + 1) _).trans k3_rp
    · exact k3_rp
theorem k3_rc {cs : CS} : rcS cs 11 3 3 = sgH (upN cs 0 (cs 11 0)) := (k3_rcL _ _ _).trans rfl
theorem rcS_ok {cs : CS} (h : sgOk cs) : chOk (rcS cs 11 3 3) := by
  rw [k3_rc]
  exact sgH_ok (sgOk_of h upN_1)
-- the commands
abbrev cm1 (u : CS) (k : Nat) : CS := rcS (upS u 9 (nI k))
abbrev cmR (u : CS) : OR := coO (u 11 3 3) (gN u 0) (gN u 1) (gN u 2) (u 0)
abbrev cm2 (u : CS) (k : Nat) : CS := rsS (rsC (cm1 u k) (cmR (cm1 u k))) 59
def cmL : Nat → Nat → CS → Bool × CS
  | 0, _, u => (true, u)
  | d + 1, k, u => if rvC (cmR (cm1 u k)) = -1 then (false, cm2 u k) else cmL d (k + 1) (cm2 u k)
def cmI (cs : CS) : CS := upS (bgS (upS (ccS cs) 8 (-1))) 2 0
def cmE (cs : CS) : Bool × CS := cmL (ccV cs).toNatClampNeg 0 (cmI cs)
theorem cm2_6 {u : CS} {k : Nat} : cm2 u k 11 3 6 = u 11 3 6 := (pSe_rs.2.2.2 6 (by omega) (by omega) (by omega)).trans ((rsC_11 (by omega) (by omega) (by omega)).trans ((pSe_rc.2.2.2 6 (by omega) (by omega) (by omega)).trans (upS_s (by omega))))
theorem cm2_1 {u : CS} {k : Nat} : cm2 u k 11 1 = u 11 1 := rsS_1.trans ((rsC_r1 (by omega)).trans (rcS_1.trans upS_1))
theorem cmI_6 {cs : CS} : cmI cs 11 3 6 = cs 11 3 6 := (show cmI cs 11 3 6 = ccS cs 11 3 6 from rfl).trans (pSe_cc.2.2.2 6 (by omega) (by omega) (by omega))
theorem cmI_1 {cs : CS} : cmI cs 11 1 = cs 11 1 := (show cmI cs 11 1 = ccS cs 11 1 from rfl).trans pSe_cc.2.1

set_option maxHeartbeats 4000000 in
set_option maxRecDepth 100000 in
theorem c_X5_begin (l : Launch) (hlf : l.stackTraces = false) (g : GC) (M : HM) (x : Nat) (cs : CS) (hW : ClsAt g M x cs) : KM g l yX5_begin cX5_begin 1 none 4 0 0 [.ref x] M (.inl (none, (putC g M x (bgS cs)))) := by
  refine k_meth hlf (by decide) (Nat.le_of_ble_eq_true rfl) fun p e s m below meth c ls hc hr hnx hM hS hl => ?_
  have hc : Cx g p l s m [.ref x].toArray meth c cX5_begin 1 RX5 := hc
  have hx := hc.1
  have hb := hc.2.1
  have hl : lv_has ls 1 [(0, .ref x)] := hl
  refine lv_aload_n hx hb dX5_begin_0 rfl (lv_at hl 0 rfl) ?_
  refine gt_X5_16 hc dX5_begin_1 hM hW.o rfl ?_
  refine lv_aload_n hx hb dX5_begin_4 rfl (lv_at hl 0 rfl) ?_
  refine gt_X5_10 hc dX5_begin_5 hM hW.o rfl ?_
  refine k_V0 hc [.ref (x + 1)] cw_X5_270 rfl dX5_begin_8 (c_X0_copyFrom l hlf g _ (x + 18) (x + 1) (cs 1) (cs 0) (hW.flat (k := 1) (a := x + 18) (by decide) rfl) (hW.flat (k := 0) (a := x + 1) (by decide) rfl) (by omega)) (hW.flat (k := 1) (a := x + 18) (by decide) rfl).o hM hS hl.1 rfl rfl ⟨Nat.le_of_ble_eq_true rfl, Nat.le_of_ble_eq_true rfl⟩ ⟨Nat.le_of_ble_eq_true rfl, Nat.le_of_ble_eq_true rfl⟩ (Nat.le_of_ble_eq_true rfl) (fun H locs hM hS => ?_)
  have hM := hR.eq hM (putC_flat hW (k := 1) (by decide) rfl)
  have hW := ClsAt.put (g := g) (M := M) (x := x) (cs := (upC cs 1 (cs 0)))
  refine lv_aload_n hx hb dX5_begin_11 rfl (lv_at hl 0 rfl) ?_
  refine lv_iconst (v := 0) hx hb dX5_begin_12 (by decide) ?_
  refine pt_X5_51 hc dX5_begin_13 hM hS hW.o rfl rfl (Nat.le_of_ble_eq_true rfl) (fun H locs hM hS => ?_)
  have hM := hR.eq hM (putC_ob hW 9 (v := 0) (by decide) ob_s9)
  have hM := hR.eq hM putC_putC
  have hW := ClsAt.put (g := g) (M := M) (x := x) (cs := (upS (upC cs 1 (cs 0)) 9 0))
  exact k_vret hc hr dX5_begin_16 hM hS (Nat.le_of_ble_eq_true rfl) (Nat.le_of_ble_eq_true rfl) (by rfl)
set_option maxHeartbeats 4000000 in
set_option maxRecDepth 100000 in
theorem c_X5_refuse (l : Launch) (hlf : l.stackTraces = false) (g : GC) (M : HM) (x : Nat) (cs : CS) (i : Int32) (j : Int32) (hW : ClsAt g M x cs) : KM g l yX5_refuse cX5_refuse 3 (some .int) 1 0 0 [.ref x, .int i, .int j] M (.inl (some (.int (-1)), (putC g M x (rfS cs i j)))) := by
  refine k_meth hlf (by decide) (Nat.le_of_ble_eq_true rfl) fun p e s m below meth c ls hc hr hnx hM hS hl => ?_
  have hc : Cx g p l s m [.ref x, .int i, .int j].toArray meth c cX5_refuse 3 RX5 := hc
  have hx := hc.1
  have hb := hc.2.1
  have hl : lv_has ls 3 [(0, .ref x), (1, .int i), (2, .int j)] := hl
  refine lv_aload_n hx hb dX5_refuse_0 rfl (lv_at hl 0 rfl) ?_
  refine lv_iload_n hx hb dX5_refuse_1 rfl (lv_at hl 1 rfl) ?_
  refine pt_X5_54 hc dX5_refuse_2 hM hS hW.o rfl rfl (Nat.le_of_ble_eq_true rfl) (fun H locs hM hS => ?_)
  have hM := hR.eq hM (putC_ob hW 10 (v := i) (by decide) ob_s10)
  have hW := ClsAt.put (g := g) (M := M) (x := x) (cs := (upS cs 10 i))
  refine lv_aload_n hx hb dX5_refuse_5 rfl (lv_at hl 0 rfl) ?_
  refine lv_iload_n hx hb dX5_refuse_6 rfl (lv_at hl 2 rfl) ?_
  refine pt_X5_57 hc dX5_refuse_7 hM hS hW.o rfl rfl (Nat.le_of_ble_eq_true rfl) (fun H locs hM hS => ?_)
  have hM := hR.eq hM (putC_ob hW 11 (v := j) (by decide) ob_s11)
  have hM := hR.eq hM putC_putC
  have hW := ClsAt.put (g := g) (M := M) (x := x) (cs := (upS (upS cs 10 i) 11 j))
  refine lv_aload_n hx hb dX5_refuse_10 rfl (lv_at hl 0 rfl) ?_
  refine lv_aload_n hx hb dX5_refuse_11 rfl (lv_at hl 0 rfl) ?_
  refine gt_X5_51 hc dX5_refuse_12 hM hW.o rfl ?_
  refine pt_X5_60 hc dX5_refuse_15 hM hS hW.o rfl rfl (Nat.le_of_ble_eq_true rfl) (fun H locs hM hS => ?_)
  have hM := hR.eq hM (putC_ob hW 12 (v := ((upS (upS cs 10 i) 11 j) 11 3 9)) (by decide) ob_s12)
  have hM := hR.eq hM putC_putC
  have hW := ClsAt.put (g := g) (M := M) (x := x) (cs := (upS (upS (upS cs 10 i) 11 j) 12 ((upS (upS cs 10 i) 11 j) 11 3 9)))
  refine lv_iconst (v := (-1)) hx hb dX5_refuse_18 (by decide) ?_
  exact k_iret hc hr dX5_refuse_19 hM hS (Nat.le_of_ble_eq_true rfl) (Nat.le_of_ble_eq_true rfl) (by rfl)
set_option maxHeartbeats 4000000 in
set_option maxRecDepth 100000 in
theorem c_X5_settle (l : Launch) (hlf : l.stackTraces = false) (g : GC) (M : HM) (x : Nat) (cs : CS) (i : Int32) (hW : ClsAt g M x cs) (hn : nxOk cs) : KM g l yX5_settle cX5_settle 2 (some .int) 6 1 6 [.ref x, .int i] M (if ¬ i = -1 then .inl (some (.int i), (putC g M x (kpS cs))) else .inr ("java/lang/UnsupportedOperationException", M)) := by
  refine k_meth hlf (by decide) (Nat.le_of_ble_eq_true rfl) fun p e s m below meth c ls hc hr hnx hM hS hl => ?_
  have hc : Cx g p l s m [.ref x, .int i].toArray meth c cX5_settle 2 RX5 := hc
  have hx := hc.1
  have hb := hc.2.1
  have hl : lv_has ls 2 [(0, .ref x), (1, .int i)] := hl
  refine lv_iload_n hx hb dX5_settle_0 rfl (lv_at hl 1 rfl) ?_
  refine lv_iconst (v := (-1)) hx hb dX5_settle_1 (by decide) ?_
  refine lv_icmp_ne (tgt := 16) hx hb dX5_settle_2 (by decide) (fun c_2 => ?_) (fun c_2 => ?_)
  · skip
    refine lv_aload_n hx hb dX5_settle_16 rfl (lv_at hl 0 rfl) ?_
    refine gt_X5_25 hc dX5_settle_17 hM hW.o rfl ?_
    refine lv_aload_n hx hb dX5_settle_20 rfl (lv_at hl 0 rfl) ?_
    refine gt_X5_16 hc dX5_settle_21 hM hW.o rfl ?_
    refine k_V0 hc [.ref (x + 18)] cw_X5_349 rfl dX5_settle_24 (c_X1_keep l hlf g _ x cs hW hn.1 hn.2) hW.hi hM hS hl.1 rfl rfl ⟨Nat.le_of_ble_eq_true rfl, Nat.le_of_ble_eq_true rfl⟩ ⟨Nat.le_of_ble_eq_true rfl, Nat.le_of_ble_eq_true rfl⟩ (Nat.le_of_ble_eq_true rfl) (fun H locs hM hS => ?_)
    have hW := ClsAt.put (g := g) (M := M) (x := x) (cs := (kpS cs))
    refine lv_iload_n hx hb dX5_settle_27 rfl (lv_at hl 1 rfl) ?_
    exact k_iret hc hr dX5_settle_28 hM hS (Nat.le_of_ble_eq_true rfl) (Nat.le_of_ble_eq_true rfl) (by first | exact if_pos c_2 | exact if_neg (not_not.mpr c_2))
  · skip
    exact k_throwW hc hnx th_UnsupportedOperationException 10 tx_10 hM hS hl.1 dX5_settle_5 dX5_settle_8 dX5_settle_9 dX5_settle_12 dX5_settle_15 ⟨Nat.le_of_ble_eq_true rfl, Nat.le_of_ble_eq_true rfl, Nat.le_of_ble_eq_true rfl, Nat.le_of_ble_eq_true rfl⟩ (Nat.le_of_ble_eq_true rfl) (Nat.le_of_ble_eq_true rfl) (by first | exact if_pos c_2 | exact if_neg (not_not.mpr c_2))
set_option maxHeartbeats 4000000 in
set_option maxRecDepth 100000 in
theorem c_X5_driveStake (l : Launch) (hlf : l.stackTraces = false) (g : GC) (M : HM) (x : Nat) (cs : CS) (i : Int32) (hW : ClsAt g M x cs) : KM g l yX5_driveStake cX5_driveStake 3 (some .int) 3 0 0 [.ref x, .int i] M (.inl (some (.int (rvC (dsO (cs 0) i))), (putC g M x (rsC cs (dsO (cs 0) i))))) := by
  refine k_meth hlf (by decide) (Nat.le_of_ble_eq_true rfl) fun p e s m below meth c ls hc hr hnx hM hS hl => ?_
  have hc : Cx g p l s m [.ref x, .int i].toArray meth c cX5_driveStake 3 RX5 := hc
  have hx := hc.1
  have hb := hc.2.1
  have hl : lv_has ls 3 [(0, .ref x), (1, .int i)] := hl
  refine lv_iload_n hx hb dX5_driveStake_0 rfl (lv_at hl 1 rfl) ?_
  refine k_S1 hc [.int i] cw_X5_215 dX5_driveStake_1 (c_X5_isPlace l hlf g _ i) hM hS hl.1 rfl rfl ⟨Nat.le_of_ble_eq_true rfl, Nat.le_of_ble_eq_true rfl⟩ ⟨Nat.le_of_ble_eq_true rfl, Nat.le_of_ble_eq_true rfl⟩ (Nat.le_of_ble_eq_true rfl) (fun H locs hM hS => ?_)
  refine lv_if_ne (tgt := 14) hx hb dX5_driveStake_4 (by decide) (fun c_4 => ?_) (fun c_4 => ?_)
  · skip
    have c_4 := bI_ne.mp c_4
    refine lv_aload_n hx hb dX5_driveStake_14 rfl (lv_at hl 0 rfl) ?_
    refine gt_X5_10 hc dX5_driveStake_15 hM hW.o rfl ?_
    refine gt_X5_116 hc dX5_driveStake_18 hM (hW.flat (k := 0) (a := x + 1) (by decide) rfl).o rfl ?_
    refine k_V1 hc [] cw_X5_355 rfl dX5_driveStake_21 (c_X3_isFull l hlf g _ (x + 2) 10 (cs 0 8 0) (cs 0 0) ((hW.flat (k := 0) (a := x + 1) (by decide) rfl).row (k := 0) (r := x + 2) (by decide) rfl rfl)) ((hW.flat (k := 0) (a := x + 1) (by decide) rfl).row (k := 0) (r := x + 2) (by decide) rfl rfl).1 hM hS hl.1 rfl rfl ⟨Nat.le_of_ble_eq_true rfl, Nat.le_of_ble_eq_true rfl⟩ ⟨Nat.le_of_ble_eq_true rfl, Nat.le_of_ble_eq_true rfl⟩ (Nat.le_of_ble_eq_true rfl) (fun H locs hM hS => ?_)
    refine lv_if_eq (tgt := 35) hx hb dX5_driveStake_24 (by decide) (fun c_24 => ?_) (fun c_24 => ?_)
    · skip
      have c_24 := bI_eq.mp c_24
      refine lv_aload_n hx hb dX5_driveStake_35 rfl (lv_at hl 0 rfl) ?_
      refine gt_X5_10 hc dX5_driveStake_36 hM hW.o rfl ?_
      refine gt_X5_116 hc dX5_driveStake_39 hM (hW.flat (k := 0) (a := x + 1) (by decide) rfl).o rfl ?_
      refine lv_iload_n hx hb dX5_driveStake_42 rfl (lv_at hl 1 rfl) ?_
      refine k_V1 hc [.int i] cw_X5_356 rfl dX5_driveStake_43 (c_X3_find l hlf g _ (x + 2) 10 (cs 0 8 0) (cs 0 0) i ((hW.flat (k := 0) (a := x + 1) (by decide) rfl).row (k := 0) (r := x + 2) (by decide) rfl rfl) (by decide)) ((hW.flat (k := 0) (a := x + 1) (by decide) rfl).row (k := 0) (r := x + 2) (by decide) rfl rfl).1 hM hS hl.1 rfl rfl ⟨Nat.le_of_ble_eq_true rfl, Nat.le_of_ble_eq_true rfl⟩ ⟨Nat.le_of_ble_eq_true rfl, Nat.le_of_ble_eq_true rfl⟩ (Nat.le_of_ble_eq_true rfl) (fun H locs hM hS => ?_)
      refine lv_istore_n (lv' := [(2, .int (rfind 10 (cs 0 8 0) (cs 0 0) i)), (0, .ref x), (1, .int i)]) hx hb dX5_driveStake_46 rfl hl (by decide) rfl (fun ls hl => ?_)
      refine lv_iload_n hx hb dX5_driveStake_47 rfl (lv_at hl 0 rfl) ?_
      refine lv_iconst (v := (-1)) hx hb dX5_driveStake_48 (by decide) ?_
      refine lv_icmp_eq (tgt := 59) hx hb dX5_driveStake_49 (by decide) (fun c_49 => ?_) (fun c_49 => ?_)
      · skip
        refine lv_aload_n hx hb dX5_driveStake_59 rfl (lv_at hl 1 rfl) ?_
        refine gt_X5_10 hc dX5_driveStake_60 hM hW.o rfl ?_
        refine gt_X5_116 hc dX5_driveStake_63 hM (hW.flat (k := 0) (a := x + 1) (by decide) rfl).o rfl ?_
        refine lv_iload_n hx hb dX5_driveStake_66 rfl (lv_at hl 2 rfl) ?_
        refine k_V1 hc [.int i] cw_X5_359 rfl dX5_driveStake_67 (c_X3_add l hlf g _ (x + 2) 10 (cs 0 8 0) (cs 0 0) i ((hW.flat (k := 0) (a := x + 1) (by decide) rfl).row (k := 0) (r := x + 2) (by decide) rfl rfl) (by decide)) ((hW.flat (k := 0) (a := x + 1) (by decide) rfl).row (k := 0) (r := x + 2) (by decide) rfl rfl).1 hM hS hl.1 rfl rfl ⟨Nat.le_of_ble_eq_true rfl, Nat.le_of_ble_eq_true rfl⟩ ⟨Nat.le_of_ble_eq_true rfl, Nat.le_of_ble_eq_true rfl⟩ (Nat.le_of_ble_eq_true rfl) (fun H locs hM hS => ?_)
        have hM := hR.eq hM (putF_row (hW.flat (k := 0) (a := x + 1) (by decide) rfl) (k := 0) (by decide) rfl rfl)
        have hM := hR.eq hM (putC_flat hW (k := 0) (by decide) rfl)
        have hW := ClsAt.put (g := g) (M := M) (x := x) (cs := (upC cs 0 (upR (cs 0) 0 (if rroom 10 (cs 0 8 0) then (cs 0 8 0) + 1 else (cs 0 8 0)) (if rroom 10 (cs 0 8 0) then upd (cs 0 0) ((cs 0 8 0)).toNatClampNeg i else (cs 0 0)))))
        exact k_iret hc hr dX5_driveStake_70 hM hS (Nat.le_of_ble_eq_true rfl) (Nat.le_of_ble_eq_true rfl) (by first | (simp only [dsO, rAdd, rAddV, , eq_true c_4, eq_false c_24, eq_true c_49, rvC_l, rvC_r, rsC_l, rsC_r, upC_at, upC_upC, not_false_eq_true, not_true_eq_false, and_true, true_and, and_false, false_and, and_self, ↓reduceIte, or_true, true_or, or_self, or_false, false_or]; done) | (simp only [dsO, rAdd, rAddV, , eq_true c_4, eq_false c_24, eq_true c_49, rvC_l, rvC_r, rsC_l, rsC_r, upC_at, upC_upC, not_false_eq_true, not_true_eq_false, and_true, true_and, and_false, false_and, and_self, ↓reduceIte, or_true, true_or, or_self, or_false, false_or]; rfl))
      · skip
        refine lv_aload_n hx hb dX5_driveStake_52 rfl (lv_at hl 1 rfl) ?_
        refine lv_iconst (v := 4) hx hb dX5_driveStake_53 (by decide) ?_
        refine lv_iload_n hx hb dX5_driveStake_54 rfl (lv_at hl 0 rfl) ?_
        refine k_V1 hc [.int 4, .int (rfind 10 (cs 0 8 0) (cs 0 0) i)] cw_X5_352 rfl dX5_driveStake_55 (c_X5_refuse l hlf g _ x cs 4 (rfind 10 (cs 0 8 0) (cs 0 0) i) hW) hW.o hM hS hl.1 rfl rfl ⟨Nat.le_of_ble_eq_true rfl, Nat.le_of_ble_eq_true rfl⟩ ⟨Nat.le_of_ble_eq_true rfl, Nat.le_of_ble_eq_true rfl⟩ (Nat.le_of_ble_eq_true rfl) (fun H locs hM hS => ?_)
        have hW := ClsAt.put (g := g) (M := M) (x := x) (cs := (rfS cs 4 (rfind 10 (cs 0 8 0) (cs 0 0) i)))
        exact k_iret hc hr dX5_driveStake_58 hM hS (Nat.le_of_ble_eq_true rfl) (Nat.le_of_ble_eq_true rfl) (by first | (simp only [dsO, rAdd, rAddV, , eq_true c_4, eq_false c_24, eq_false c_49, rvC_l, rvC_r, rsC_l, rsC_r, upC_at, upC_upC, not_false_eq_true, not_true_eq_false, and_true, true_and, and_false, false_and, and_self, ↓reduceIte, or_true, true_or, or_self, or_false, false_or]; done) | (simp only [dsO, rAdd, rAddV, , eq_true c_4, eq_false c_24, eq_false c_49, rvC_l, rvC_r, rsC_l, rsC_r, upC_at, upC_upC, not_false_eq_true, not_true_eq_false, and_true, true_and, and_false, false_and, and_self, ↓reduceIte, or_true, true_or, or_self, or_false, false_or]; rfl))
    · skip
      have c_24 := bI_ne.mp c_24
      refine lv_aload_n hx hb dX5_driveStake_27 rfl (lv_at hl 0 rfl) ?_
      refine lv_iconst (v := 2) hx hb dX5_driveStake_28 (by decide) ?_
      refine lv_bipush (v := 10) hx hb dX5_driveStake_29 (by decide) ?_
      refine k_V1 hc [.int 2, .int 10] cw_X5_352 rfl dX5_driveStake_31 (c_X5_refuse l hlf g _ x cs 2 10 hW) hW.o hM hS hl.1 rfl rfl ⟨Nat.le_of_ble_eq_true rfl, Nat.le_of_ble_eq_true rfl⟩ ⟨Nat.le_of_ble_eq_true rfl, Nat.le_of_ble_eq_true rfl⟩ (Nat.le_of_ble_eq_true rfl) (fun H locs hM hS => ?_)
      have hW := ClsAt.put (g := g) (M := M) (x := x) (cs := (rfS cs 2 10))
      exact k_iret hc hr dX5_driveStake_34 hM hS (Nat.le_of_ble_eq_true rfl) (Nat.le_of_ble_eq_true rfl) (by first | (simp only [dsO, rAdd, rAddV, , eq_true c_4, eq_true c_24, rvC_l, rvC_r, rsC_l, rsC_r, upC_at, upC_upC, not_false_eq_true, not_true_eq_false, and_true, true_and, and_false, false_and, and_self, ↓reduceIte, or_true, true_or, or_self, or_false, false_or]; done) | (simp only [dsO, rAdd, rAddV, , eq_true c_4, eq_true c_24, rvC_l, rvC_r, rsC_l, rsC_r, upC_at, upC_upC, not_false_eq_true, not_true_eq_false, and_true, true_and, and_false, false_and, and_self, ↓reduceIte, or_true, true_or, or_self, or_false, false_or]; rfl))
  · skip
    have c_4 := bI_eq.mp c_4
    refine lv_aload_n hx hb dX5_driveStake_7 rfl (lv_at hl 0 rfl) ?_
    refine lv_iconst (v := 1) hx hb dX5_driveStake_8 (by decide) ?_
    refine lv_iconst (v := 0) hx hb dX5_driveStake_9 (by decide) ?_
    refine k_V1 hc [.int 1, .int 0] cw_X5_352 rfl dX5_driveStake_10 (c_X5_refuse l hlf g _ x cs 1 0 hW) hW.o hM hS hl.1 rfl rfl ⟨Nat.le_of_ble_eq_true rfl, Nat.le_of_ble_eq_true rfl⟩ ⟨Nat.le_of_ble_eq_true rfl, Nat.le_of_ble_eq_true rfl⟩ (Nat.le_of_ble_eq_true rfl) (fun H locs hM hS => ?_)
    have hW := ClsAt.put (g := g) (M := M) (x := x) (cs := (rfS cs 1 0))
    exact k_iret hc hr dX5_driveStake_13 hM hS (Nat.le_of_ble_eq_true rfl) (Nat.le_of_ble_eq_true rfl) (by first | (simp only [dsO, rAdd, rAddV, , eq_false c_4, rvC_l, rvC_r, rsC_l, rsC_r, upC_at, upC_upC, not_false_eq_true, not_true_eq_false, and_true, true_and, and_false, false_and, and_self, ↓reduceIte, or_true, true_or, or_self, or_false, false_or]; done) | (simp only [dsO, rAdd, rAddV, , eq_false c_4, rvC_l, rvC_r, rsC_l, rsC_r, upC_at, upC_upC, not_false_eq_true, not_true_eq_false, and_true, true_and, and_false, false_and, and_self, ↓reduceIte, or_true, true_or, or_self, or_false, false_or]; rfl))
set_option maxHeartbeats 4000000 in
set_option maxRecDepth 100000 in
theorem c_X5_setUpPost (l : Launch) (hlf : l.stackTraces = false) (g : GC) (M : HM) (x : Nat) (cs : CS) (i : Int32) (j : Int32) (hW : ClsAt g M x cs) : KM g l yX5_setUpPost cX5_setUpPost 3 (some .int) 2 0 0 [.ref x, .int i, .int j] M (.inl (some (.int (rvC (spO (cs 0) i j))), (putC g M x (rsC cs (spO (cs 0) i j))))) := by
  refine k_meth hlf (by decide) (Nat.le_of_ble_eq_true rfl) fun p e s m below meth c ls hc hr hnx hM hS hl => ?_
  have hc : Cx g p l s m [.ref x, .int i, .int j].toArray meth c cX5_setUpPost 3 RX5 := hc
  have hx := hc.1
  have hb := hc.2.1
  have hl : lv_has ls 3 [(0, .ref x), (1, .int i), (2, .int j)] := hl
  refine lv_iload_n hx hb dX5_setUpPost_0 rfl (lv_at hl 1 rfl) ?_
  refine k_S1 hc [.int i] cw_X5_215 dX5_setUpPost_1 (c_X5_isPlace l hlf g _ i) hM hS hl.1 rfl rfl ⟨Nat.le_of_ble_eq_true rfl, Nat.le_of_ble_eq_true rfl⟩ ⟨Nat.le_of_ble_eq_true rfl, Nat.le_of_ble_eq_true rfl⟩ (Nat.le_of_ble_eq_true rfl) (fun H locs hM hS => ?_)
  refine lv_if_eq (tgt := 18) hx hb dX5_setUpPost_4 (by decide) (fun c_4 => ?_) (fun c_4 => ?_)
  · skip
    have c_4 := bI_eq.mp c_4
    refine lv_aload_n hx hb dX5_setUpPost_18 rfl (lv_at hl 0 rfl) ?_
    refine lv_iconst (v := 1) hx hb dX5_setUpPost_19 (by decide) ?_
    refine lv_iconst (v := 0) hx hb dX5_setUpPost_20 (by decide) ?_
    refine k_V1 hc [.int 1, .int 0] cw_X5_352 rfl dX5_setUpPost_21 (c_X5_refuse l hlf g _ x cs 1 0 hW) hW.o hM hS hl.1 rfl rfl ⟨Nat.le_of_ble_eq_true rfl, Nat.le_of_ble_eq_true rfl⟩ ⟨Nat.le_of_ble_eq_true rfl, Nat.le_of_ble_eq_true rfl⟩ (Nat.le_of_ble_eq_true rfl) (fun H locs hM hS => ?_)
    have hW := ClsAt.put (g := g) (M := M) (x := x) (cs := (rfS cs 1 0))
    exact k_iret hc hr dX5_setUpPost_24 hM hS (Nat.le_of_ble_eq_true rfl) (Nat.le_of_ble_eq_true rfl) (by first | (simp only [spO, rAdd, rAddV, , eq_false c_4, rvC_l, rvC_r, rsC_l, rsC_r, upC_at, upC_upC, not_false_eq_true, not_true_eq_false, and_true, true_and, and_false, false_and, and_self, ↓reduceIte, or_true, true_or, or_self, or_false, false_or]; done) | (simp only [spO, rAdd, rAddV, , eq_false c_4, rvC_l, rvC_r, rsC_l, rsC_r, upC_at, upC_upC, not_false_eq_true, not_true_eq_false, and_true, true_and, and_false, false_and, and_self, ↓reduceIte, or_true, true_or, or_self, or_false, false_or]; rfl))
  · skip
    have c_4 := bI_ne.mp c_4
    refine lv_iload_n hx hb dX5_setUpPost_7 rfl (lv_at hl 2 rfl) ?_
    refine lv_iconst (v := 1) hx hb dX5_setUpPost_8 (by decide) ?_
    refine lv_icmp_lt (tgt := 18) hx hb dX5_setUpPost_9 (by decide) (fun c_9 => ?_) (fun c_9 => ?_)
    · skip
      refine lv_aload_n hx hb dX5_setUpPost_18 rfl (lv_at hl 0 rfl) ?_
      refine lv_iconst (v := 1) hx hb dX5_setUpPost_19 (by decide) ?_
      refine lv_iconst (v := 0) hx hb dX5_setUpPost_20 (by decide) ?_
      refine k_V1 hc [.int 1, .int 0] cw_X5_352 rfl dX5_setUpPost_21 (c_X5_refuse l hlf g _ x cs 1 0 hW) hW.o hM hS hl.1 rfl rfl ⟨Nat.le_of_ble_eq_true rfl, Nat.le_of_ble_eq_true rfl⟩ ⟨Nat.le_of_ble_eq_true rfl, Nat.le_of_ble_eq_true rfl⟩ (Nat.le_of_ble_eq_true rfl) (fun H locs hM hS => ?_)
      have hW := ClsAt.put (g := g) (M := M) (x := x) (cs := (rfS cs 1 0))
      exact k_iret hc hr dX5_setUpPost_24 hM hS (Nat.le_of_ble_eq_true rfl) (Nat.le_of_ble_eq_true rfl) (by first | (simp only [spO, rAdd, rAddV, , eq_true c_4, eq_true c_9, rvC_l, rvC_r, rsC_l, rsC_r, upC_at, upC_upC, not_false_eq_true, not_true_eq_false, and_true, true_and, and_false, false_and, and_self, ↓reduceIte, or_true, true_or, or_self, or_false, false_or]; done) | (simp only [spO, rAdd, rAddV, , eq_true c_4, eq_true c_9, rvC_l, rvC_r, rsC_l, rsC_r, upC_at, upC_upC, not_false_eq_true, not_true_eq_false, and_true, true_and, and_false, false_and, and_self, ↓reduceIte, or_true, true_or, or_self, or_false, false_or]; rfl))
    · skip
      refine lv_iload_n hx hb dX5_setUpPost_12 rfl (lv_at hl 2 rfl) ?_
      refine lv_bipush (v := 9) hx hb dX5_setUpPost_13 (by decide) ?_
      refine lv_icmp_le (tgt := 25) hx hb dX5_setUpPost_15 (by decide) (fun c_15 => ?_) (fun c_15 => ?_)
      · skip
        refine lv_aload_n hx hb dX5_setUpPost_25 rfl (lv_at hl 0 rfl) ?_
        refine gt_X5_10 hc dX5_setUpPost_26 hM hW.o rfl ?_
        refine gt_X5_131 hc dX5_setUpPost_29 hM (hW.flat (k := 0) (a := x + 1) (by decide) rfl).o rfl ?_
        refine k_V1 hc [] cw_X5_355 rfl dX5_setUpPost_32 (c_X3_isFull l hlf g _ (x + 4) 4 (cs 0 8 1) (cs 0 1) ((hW.flat (k := 0) (a := x + 1) (by decide) rfl).row (k := 1) (r := x + 4) (by decide) rfl rfl)) ((hW.flat (k := 0) (a := x + 1) (by decide) rfl).row (k := 1) (r := x + 4) (by decide) rfl rfl).1 hM hS hl.1 rfl rfl ⟨Nat.le_of_ble_eq_true rfl, Nat.le_of_ble_eq_true rfl⟩ ⟨Nat.le_of_ble_eq_true rfl, Nat.le_of_ble_eq_true rfl⟩ (Nat.le_of_ble_eq_true rfl) (fun H locs hM hS => ?_)
        refine lv_if_eq (tgt := 45) hx hb dX5_setUpPost_35 (by decide) (fun c_35 => ?_) (fun c_35 => ?_)
        · skip
          have c_35 := bI_eq.mp c_35
          refine lv_aload_n hx hb dX5_setUpPost_45 rfl (lv_at hl 0 rfl) ?_
          refine gt_X5_10 hc dX5_setUpPost_46 hM hW.o rfl ?_
          refine gt_X5_128 hc dX5_setUpPost_49 hM (hW.flat (k := 0) (a := x + 1) (by decide) rfl).o rfl ?_
          refine lv_iload_n hx hb dX5_setUpPost_52 rfl (lv_at hl 2 rfl) ?_
          refine k_V1 hc [.int j] cw_X5_359 rfl dX5_setUpPost_53 (c_X3_add l hlf g _ (x + 6) 4 (cs 0 8 2) (cs 0 2) j ((hW.flat (k := 0) (a := x + 1) (by decide) rfl).row (k := 2) (r := x + 6) (by decide) rfl rfl) (by decide)) ((hW.flat (k := 0) (a := x + 1) (by decide) rfl).row (k := 2) (r := x + 6) (by decide) rfl rfl).1 hM hS hl.1 rfl rfl ⟨Nat.le_of_ble_eq_true rfl, Nat.le_of_ble_eq_true rfl⟩ ⟨Nat.le_of_ble_eq_true rfl, Nat.le_of_ble_eq_true rfl⟩ (Nat.le_of_ble_eq_true rfl) (fun H locs hM hS => ?_)
          have hM := hR.eq hM (putF_row (hW.flat (k := 0) (a := x + 1) (by decide) rfl) (k := 2) (by decide) rfl rfl)
          have hM := hR.eq hM (putC_flat hW (k := 0) (by decide) rfl)
          have hW := ClsAt.put (g := g) (M := M) (x := x) (cs := (upC cs 0 (upR (cs 0) 2 (if rroom 4 (cs 0 8 2) then (cs 0 8 2) + 1 else (cs 0 8 2)) (if rroom 4 (cs 0 8 2) then upd (cs 0 2) ((cs 0 8 2)).toNatClampNeg j else (cs 0 2)))))
          refine lv_pop hx hb dX5_setUpPost_56 rfl ?_
          refine lv_aload_n hx hb dX5_setUpPost_57 rfl (lv_at hl 0 rfl) ?_
          refine gt_X5_10 hc dX5_setUpPost_58 hM hW.o rfl ?_
          refine gt_X5_131 hc dX5_setUpPost_61 hM (hW.flat (k := 0) (a := x + 1) (by decide) rfl).o rfl ?_
          refine lv_iload_n hx hb dX5_setUpPost_64 rfl (lv_at hl 1 rfl) ?_
          refine k_V1 hc [.int i] cw_X5_359 rfl dX5_setUpPost_65 (c_X3_add l hlf g _ (x + 4) 4 ((upC cs 0 (upR (cs 0) 2 (if rroom 4 (cs 0 8 2) then (cs 0 8 2) + 1 else (cs 0 8 2)) (if rroom 4 (cs 0 8 2) then upd (cs 0 2) ((cs 0 8 2)).toNatClampNeg j else (cs 0 2)))) 0 8 1) ((upC cs 0 (upR (cs 0) 2 (if rroom 4 (cs 0 8 2) then (cs 0 8 2) + 1 else (cs 0 8 2)) (if rroom 4 (cs 0 8 2) then upd (cs 0 2) ((cs 0 8 2)).toNatClampNeg j else (cs 0 2)))) 0 1) i ((hW.flat (k := 0) (a := x + 1) (by decide) rfl).row (k := 1) (r := x + 4) (by decide) rfl rfl) (by decide)) ((hW.flat (k := 0) (a := x + 1) (by decide) rfl).row (k := 1) (r := x + 4) (by decide) rfl rfl).1 hM hS hl.1 rfl rfl ⟨Nat.le_of_ble_eq_true rfl, Nat.le_of_ble_eq_true rfl⟩ ⟨Nat.le_of_ble_eq_true rfl, Nat.le_of_ble_eq_true rfl⟩ (Nat.le_of_ble_eq_true rfl) (fun H locs hM hS => ?_)
          have hM := hR.eq hM (putF_row (hW.flat (k := 0) (a := x + 1) (by decide) rfl) (k := 1) (by decide) rfl rfl)
          have hM := hR.eq hM (putC_flat hW (k := 0) (by decide) rfl)
          have hM := hR.eq hM putC_putC
          have hW := ClsAt.put (g := g) (M := M) (x := x) (cs := (upC (upC cs 0 (upR (cs 0) 2 (if rroom 4 (cs 0 8 2) then (cs 0 8 2) + 1 else (cs 0 8 2)) (if rroom 4 (cs 0 8 2) then upd (cs 0 2) ((cs 0 8 2)).toNatClampNeg j else (cs 0 2)))) 0 (upR ((upC cs 0 (upR (cs 0) 2 (if rroom 4 (cs 0 8 2) then (cs 0 8 2) + 1 else (cs 0 8 2)) (if rroom 4 (cs 0 8 2) then upd (cs 0 2) ((cs 0 8 2)).toNatClampNeg j else (cs 0 2)))) 0) 1 (if rroom 4 ((upC cs 0 (upR (cs 0) 2 (if rroom 4 (cs 0 8 2) then (cs 0 8 2) + 1 else (cs 0 8 2)) (if rroom 4 (cs 0 8 2) then upd (cs 0 2) ((cs 0 8 2)).toNatClampNeg j else (cs 0 2)))) 0 8 1) then ((upC cs 0 (upR (cs 0) 2 (if rroom 4 (cs 0 8 2) then (cs 0 8 2) + 1 else (cs 0 8 2)) (if rroom 4 (cs 0 8 2) then upd (cs 0 2) ((cs 0 8 2)).toNatClampNeg j else (cs 0 2)))) 0 8 1) + 1 else ((upC cs 0 (upR (cs 0) 2 (if rroom 4 (cs 0 8 2) then (cs 0 8 2) + 1 else (cs 0 8 2)) (if rroom 4 (cs 0 8 2) then upd (cs 0 2) ((cs 0 8 2)).toNatClampNeg j else (cs 0 2)))) 0 8 1)) (if rroom 4 ((upC cs 0 (upR (cs 0) 2 (if rroom 4 (cs 0 8 2) then (cs 0 8 2) + 1 else (cs 0 8 2)) (if rroom 4 (cs 0 8 2) then upd (cs 0 2) ((cs 0 8 2)).toNatClampNeg j else (cs 0 2)))) 0 8 1) then upd ((upC cs 0 (upR (cs 0) 2 (if rroom 4 (cs 0 8 2) then (cs 0 8 2) + 1 else (cs 0 8 2)) (if rroom 4 (cs 0 8 2) then upd (cs 0 2) ((cs 0 8 2)).toNatClampNeg j else (cs 0 2)))) 0 1) (((upC cs 0 (upR (cs 0) 2 (if rroom 4 (cs 0 8 2) then (cs 0 8 2) + 1 else (cs 0 8 2)) (if rroom 4 (cs 0 8 2) then upd (cs 0 2) ((cs 0 8 2)).toNatClampNeg j else (cs 0 2)))) 0 8 1)).toNatClampNeg i else ((upC cs 0 (upR (cs 0) 2 (if rroom 4 (cs 0 8 2) then (cs 0 8 2) + 1 else (cs 0 8 2)) (if rroom 4 (cs 0 8 2) then upd (cs 0 2) ((cs 0 8 2)).toNatClampNeg j else (cs 0 2)))) 0 1)))))
          exact k_iret hc hr dX5_setUpPost_68 hM hS (Nat.le_of_ble_eq_true rfl) (Nat.le_of_ble_eq_true rfl) (by first | (simp only [spO, rAdd, rAddV, , eq_true c_4, eq_false c_9, eq_true c_15, eq_false c_35, rvC_l, rvC_r, rsC_l, rsC_r, upC_at, upC_upC, not_false_eq_true, not_true_eq_false, and_true, true_and, and_false, false_and, and_self, ↓reduceIte, or_true, true_or, or_self, or_false, false_or]; done) | (simp only [spO, rAdd, rAddV, , eq_true c_4, eq_false c_9, eq_true c_15, eq_false c_35, rvC_l, rvC_r, rsC_l, rsC_r, upC_at, upC_upC, not_false_eq_true, not_true_eq_false, and_true, true_and, and_false, false_and, and_self, ↓reduceIte, or_true, true_or, or_self, or_false, false_or]; rfl))
        · skip
          have c_35 := bI_ne.mp c_35
          refine lv_aload_n hx hb dX5_setUpPost_38 rfl (lv_at hl 0 rfl) ?_
          refine lv_iconst (v := 2) hx hb dX5_setUpPost_39 (by decide) ?_
          refine lv_iconst (v := 4) hx hb dX5_setUpPost_40 (by decide) ?_
          refine k_V1 hc [.int 2, .int 4] cw_X5_352 rfl dX5_setUpPost_41 (c_X5_refuse l hlf g _ x cs 2 4 hW) hW.o hM hS hl.1 rfl rfl ⟨Nat.le_of_ble_eq_true rfl, Nat.le_of_ble_eq_true rfl⟩ ⟨Nat.le_of_ble_eq_true rfl, Nat.le_of_ble_eq_true rfl⟩ (Nat.le_of_ble_eq_true rfl) (fun H locs hM hS => ?_)
          have hW := ClsAt.put (g := g) (M := M) (x := x) (cs := (rfS cs 2 4))
          exact k_iret hc hr dX5_setUpPost_44 hM hS (Nat.le_of_ble_eq_true rfl) (Nat.le_of_ble_eq_true rfl) (by first | (simp only [spO, rAdd, rAddV, , eq_true c_4, eq_false c_9, eq_true c_15, eq_true c_35, rvC_l, rvC_r, rsC_l, rsC_r, upC_at, upC_upC, not_false_eq_true, not_true_eq_false, and_true, true_and, and_false, false_and, and_self, ↓reduceIte, or_true, true_or, or_self, or_false, false_or]; done) | (simp only [spO, rAdd, rAddV, , eq_true c_4, eq_false c_9, eq_true c_15, eq_true c_35, rvC_l, rvC_r, rsC_l, rsC_r, upC_at, upC_upC, not_false_eq_true, not_true_eq_false, and_true, true_and, and_false, false_and, and_self, ↓reduceIte, or_true, true_or, or_self, or_false, false_or]; rfl))
      · skip
        refine lv_aload_n hx hb dX5_setUpPost_18 rfl (lv_at hl 0 rfl) ?_
        refine lv_iconst (v := 1) hx hb dX5_setUpPost_19 (by decide) ?_
        refine lv_iconst (v := 0) hx hb dX5_setUpPost_20 (by decide) ?_
        refine k_V1 hc [.int 1, .int 0] cw_X5_352 rfl dX5_setUpPost_21 (c_X5_refuse l hlf g _ x cs 1 0 hW) hW.o hM hS hl.1 rfl rfl ⟨Nat.le_of_ble_eq_true rfl, Nat.le_of_ble_eq_true rfl⟩ ⟨Nat.le_of_ble_eq_true rfl, Nat.le_of_ble_eq_true rfl⟩ (Nat.le_of_ble_eq_true rfl) (fun H locs hM hS => ?_)
        have hW := ClsAt.put (g := g) (M := M) (x := x) (cs := (rfS cs 1 0))
        exact k_iret hc hr dX5_setUpPost_24 hM hS (Nat.le_of_ble_eq_true rfl) (Nat.le_of_ble_eq_true rfl) (by first | (simp only [spO, rAdd, rAddV, , eq_true c_4, eq_false c_9, eq_false c_15, rvC_l, rvC_r, rsC_l, rsC_r, upC_at, upC_upC, not_false_eq_true, not_true_eq_false, and_true, true_and, and_false, false_and, and_self, ↓reduceIte, or_true, true_or, or_self, or_false, false_or]; done) | (simp only [spO, rAdd, rAddV, , eq_true c_4, eq_false c_9, eq_false c_15, rvC_l, rvC_r, rsC_l, rsC_r, upC_at, upC_upC, not_false_eq_true, not_true_eq_false, and_true, true_and, and_false, false_and, and_self, ↓reduceIte, or_true, true_or, or_self, or_false, false_or]; rfl))
set_option maxHeartbeats 4000000 in
set_option maxRecDepth 100000 in
theorem c_X5_addSheet (l : Launch) (hlf : l.stackTraces = false) (g : GC) (M : HM) (x : Nat) (cs : CS) (hW : ClsAt g M x cs) : KM g l yX5_addSheet cX5_addSheet 1 (some .int) 2 0 0 [.ref x] M (.inl (some (.int (rvC (asO (cs 0)))), (putC g M x (rsC cs (asO (cs 0)))))) := by
  refine k_meth hlf (by decide) (Nat.le_of_ble_eq_true rfl) fun p e s m below meth c ls hc hr hnx hM hS hl => ?_
  have hc : Cx g p l s m [.ref x].toArray meth c cX5_addSheet 1 RX5 := hc
  have hx := hc.1
  have hb := hc.2.1
  have hl : lv_has ls 1 [(0, .ref x)] := hl
  refine lv_aload_n hx hb dX5_addSheet_0 rfl (lv_at hl 0 rfl) ?_
  refine gt_X5_10 hc dX5_addSheet_1 hM hW.o rfl ?_
  refine gt_X5_315 hc dX5_addSheet_4 hM (hW.flat (k := 0) (a := x + 1) (by decide) rfl).o rfl ?_
  refine lv_iconst (v := 3) hx hb dX5_addSheet_7 (by decide) ?_
  refine lv_icmp_lt (tgt := 18) hx hb dX5_addSheet_8 (by decide) (fun c_8 => ?_) (fun c_8 => ?_)
  · skip
    refine lv_aload_n hx hb dX5_addSheet_18 rfl (lv_at hl 0 rfl) ?_
    refine gt_X5_10 hc dX5_addSheet_19 hM hW.o rfl ?_
    refine lv_dup hx hb dX5_addSheet_22 rfl ?_
    refine gt_X5_315 hc dX5_addSheet_23 hM (hW.flat (k := 0) (a := x + 1) (by decide) rfl).o rfl ?_
    refine lv_iconst (v := 1) hx hb dX5_addSheet_26 (by decide) ?_
    refine lv_iadd hx hb dX5_addSheet_27 ?_
    refine pt_X5_315 hc dX5_addSheet_28 hM hS (hW.flat (k := 0) (a := x + 1) (by decide) rfl).o rfl rfl (Nat.le_of_ble_eq_true rfl) (fun H locs hM hS => ?_)
    have hM := hR.eq hM (putF_fld (hW.flat (k := 0) (a := x + 1) (by decide) rfl) 0 (v := ((cs 0 9 0) + 1)) fl_s0)
    have hM := hR.eq hM (putC_flat hW (k := 0) (by decide) rfl)
    have hW := ClsAt.put (g := g) (M := M) (x := x) (cs := (upC cs 0 (up2 (cs 0) 9 0 ((cs 0 9 0) + 1))))
    refine lv_aload_n hx hb dX5_addSheet_31 rfl (lv_at hl 0 rfl) ?_
    refine gt_X5_10 hc dX5_addSheet_32 hM hW.o rfl ?_
    refine gt_X5_315 hc dX5_addSheet_35 hM (hW.flat (k := 0) (a := x + 1) (by decide) rfl).o rfl ?_
    refine lv_iconst (v := 1) hx hb dX5_addSheet_38 (by decide) ?_
    refine lv_isub hx hb dX5_addSheet_39 ?_
    exact k_iret hc hr dX5_addSheet_40 hM hS (Nat.le_of_ble_eq_true rfl) (Nat.le_of_ble_eq_true rfl) (by first | (simp only [asO, , eq_true c_8, rvC_l, rvC_r, rsC_l, rsC_r, upC_at, upC_upC, not_false_eq_true, not_true_eq_false, and_true, true_and, and_false, false_and, and_self, ↓reduceIte, or_true, true_or, or_self, or_false, false_or]; done) | (simp only [asO, , eq_true c_8, rvC_l, rvC_r, rsC_l, rsC_r, upC_at, upC_upC, not_false_eq_true, not_true_eq_false, and_true, true_and, and_false, false_and, and_self, ↓reduceIte, or_true, true_or, or_self, or_false, false_or]; rfl))
  · skip
    refine lv_aload_n hx hb dX5_addSheet_11 rfl (lv_at hl 0 rfl) ?_
    refine lv_iconst (v := 2) hx hb dX5_addSheet_12 (by decide) ?_
    refine lv_iconst (v := 3) hx hb dX5_addSheet_13 (by decide) ?_
    refine k_V1 hc [.int 2, .int 3] cw_X5_352 rfl dX5_addSheet_14 (c_X5_refuse l hlf g _ x cs 2 3 hW) hW.o hM hS hl.1 rfl rfl ⟨Nat.le_of_ble_eq_true rfl, Nat.le_of_ble_eq_true rfl⟩ ⟨Nat.le_of_ble_eq_true rfl, Nat.le_of_ble_eq_true rfl⟩ (Nat.le_of_ble_eq_true rfl) (fun H locs hM hS => ?_)
    have hW := ClsAt.put (g := g) (M := M) (x := x) (cs := (rfS cs 2 3))
    exact k_iret hc hr dX5_addSheet_17 hM hS (Nat.le_of_ble_eq_true rfl) (Nat.le_of_ble_eq_true rfl) (by first | (simp only [asO, , eq_false c_8, rvC_l, rvC_r, rsC_l, rsC_r, upC_at, upC_upC, not_false_eq_true, not_true_eq_false, and_true, true_and, and_false, false_and, and_self, ↓reduceIte, or_true, true_or, or_self, or_false, false_or]; done) | (simp only [asO, , eq_false c_8, rvC_l, rvC_r, rsC_l, rsC_r, upC_at, upC_upC, not_false_eq_true, not_true_eq_false, and_true, true_and, and_false, false_and, and_self, ↓reduceIte, or_true, true_or, or_self, or_false, false_or]; rfl))
set_option maxHeartbeats 4000000 in
set_option maxRecDepth 100000 in
theorem c_X5_setDayHeat (l : Launch) (hlf : l.stackTraces = false) (g : GC) (M : HM) (x : Nat) (cs : CS) (i : Int32) (hW : ClsAt g M x cs) : KM g l yX5_setDayHeat cX5_setDayHeat 2 (some .int) 3 0 0 [.ref x, .int i] M (.inl (some (.int (rvC (shO (cs 0) i))), (putC g M x (rsC cs (shO (cs 0) i))))) := by
  refine k_meth hlf (by decide) (Nat.le_of_ble_eq_true rfl) fun p e s m below meth c ls hc hr hnx hM hS hl => ?_
  have hc : Cx g p l s m [.ref x, .int i].toArray meth c cX5_setDayHeat 2 RX5 := hc
  have hx := hc.1
  have hb := hc.2.1
  have hl : lv_has ls 2 [(0, .ref x), (1, .int i)] := hl
  refine lv_iload_n hx hb dX5_setDayHeat_0 rfl (lv_at hl 1 rfl) ?_
  refine lv_if_lt (tgt := 10) hx hb dX5_setDayHeat_1 (by decide) (fun c_1 => ?_) (fun c_1 => ?_)
  · skip
    refine lv_aload_n hx hb dX5_setDayHeat_10 rfl (lv_at hl 0 rfl) ?_
    refine lv_iconst (v := 1) hx hb dX5_setDayHeat_11 (by decide) ?_
    refine lv_iconst (v := 0) hx hb dX5_setDayHeat_12 (by decide) ?_
    refine k_V1 hc [.int 1, .int 0] cw_X5_352 rfl dX5_setDayHeat_13 (c_X5_refuse l hlf g _ x cs 1 0 hW) hW.o hM hS hl.1 rfl rfl ⟨Nat.le_of_ble_eq_true rfl, Nat.le_of_ble_eq_true rfl⟩ ⟨Nat.le_of_ble_eq_true rfl, Nat.le_of_ble_eq_true rfl⟩ (Nat.le_of_ble_eq_true rfl) (fun H locs hM hS => ?_)
    have hW := ClsAt.put (g := g) (M := M) (x := x) (cs := (rfS cs 1 0))
    exact k_iret hc hr dX5_setDayHeat_16 hM hS (Nat.le_of_ble_eq_true rfl) (Nat.le_of_ble_eq_true rfl) (by first | (simp only [shO, , eq_true c_1, rvC_l, rvC_r, rsC_l, rsC_r, upC_at, upC_upC, not_false_eq_true, not_true_eq_false, and_true, true_and, and_false, false_and, and_self, ↓reduceIte, or_true, true_or, or_self, or_false, false_or]; done) | (simp only [shO, , eq_true c_1, rvC_l, rvC_r, rsC_l, rsC_r, upC_at, upC_upC, not_false_eq_true, not_true_eq_false, and_true, true_and, and_false, false_and, and_self, ↓reduceIte, or_true, true_or, or_self, or_false, false_or]; rfl))
  · skip
    refine lv_iload_n hx hb dX5_setDayHeat_4 rfl (lv_at hl 1 rfl) ?_
    refine lv_bipush (v := 9) hx hb dX5_setDayHeat_5 (by decide) ?_
    refine lv_icmp_le (tgt := 17) hx hb dX5_setDayHeat_7 (by decide) (fun c_7 => ?_) (fun c_7 => ?_)
    · skip
      refine lv_aload_n hx hb dX5_setDayHeat_17 rfl (lv_at hl 0 rfl) ?_
      refine gt_X5_10 hc dX5_setDayHeat_18 hM hW.o rfl ?_
      refine lv_iload_n hx hb dX5_setDayHeat_21 rfl (lv_at hl 1 rfl) ?_
      refine pt_X5_312 hc dX5_setDayHeat_22 hM hS (hW.flat (k := 0) (a := x + 1) (by decide) rfl).o rfl rfl (Nat.le_of_ble_eq_true rfl) (fun H locs hM hS => ?_)
      have hM := hR.eq hM (putF_fld (hW.flat (k := 0) (a := x + 1) (by decide) rfl) 2 (v := i) fl_s2)
      have hM := hR.eq hM (putC_flat hW (k := 0) (by decide) rfl)
      have hW := ClsAt.put (g := g) (M := M) (x := x) (cs := (upC cs 0 (up2 (cs 0) 9 2 i)))
      refine lv_aload_n hx hb dX5_setDayHeat_25 rfl (lv_at hl 0 rfl) ?_
      refine gt_X5_10 hc dX5_setDayHeat_26 hM hW.o rfl ?_
      refine k_V1 hc [] cw_X5_185 rfl dX5_setDayHeat_29 (c_X0_heatNow l hlf g _ (x + 1) ((upC cs 0 (up2 (cs 0) 9 2 i)) 0) (hW.flat (k := 0) (a := x + 1) (by decide) rfl)) (hW.flat (k := 0) (a := x + 1) (by decide) rfl).o hM hS hl.1 rfl rfl ⟨Nat.le_of_ble_eq_true rfl, Nat.le_of_ble_eq_true rfl⟩ ⟨Nat.le_of_ble_eq_true rfl, Nat.le_of_ble_eq_true rfl⟩ (Nat.le_of_ble_eq_true rfl) (fun H locs hM hS => ?_)
      exact k_iret hc hr dX5_setDayHeat_32 hM hS (Nat.le_of_ble_eq_true rfl) (Nat.le_of_ble_eq_true rfl) (by first | (simp only [shO, , eq_false c_1, eq_true c_7, rvC_l, rvC_r, rsC_l, rsC_r, upC_at, upC_upC, not_false_eq_true, not_true_eq_false, and_true, true_and, and_false, false_and, and_self, ↓reduceIte, or_true, true_or, or_self, or_false, false_or]; done) | (simp only [shO, , eq_false c_1, eq_true c_7, rvC_l, rvC_r, rsC_l, rsC_r, upC_at, upC_upC, not_false_eq_true, not_true_eq_false, and_true, true_and, and_false, false_and, and_self, ↓reduceIte, or_true, true_or, or_self, or_false, false_or]; rfl))
    · skip
      refine lv_aload_n hx hb dX5_setDayHeat_10 rfl (lv_at hl 0 rfl) ?_
      refine lv_iconst (v := 1) hx hb dX5_setDayHeat_11 (by decide) ?_
      refine lv_iconst (v := 0) hx hb dX5_setDayHeat_12 (by decide) ?_
      refine k_V1 hc [.int 1, .int 0] cw_X5_352 rfl dX5_setDayHeat_13 (c_X5_refuse l hlf g _ x cs 1 0 hW) hW.o hM hS hl.1 rfl rfl ⟨Nat.le_of_ble_eq_true rfl, Nat.le_of_ble_eq_true rfl⟩ ⟨Nat.le_of_ble_eq_true rfl, Nat.le_of_ble_eq_true rfl⟩ (Nat.le_of_ble_eq_true rfl) (fun H locs hM hS => ?_)
      have hW := ClsAt.put (g := g) (M := M) (x := x) (cs := (rfS cs 1 0))
      exact k_iret hc hr dX5_setDayHeat_16 hM hS (Nat.le_of_ble_eq_true rfl) (Nat.le_of_ble_eq_true rfl) (by first | (simp only [shO, , eq_false c_1, eq_false c_7, rvC_l, rvC_r, rsC_l, rsC_r, upC_at, upC_upC, not_false_eq_true, not_true_eq_false, and_true, true_and, and_false, false_and, and_self, ↓reduceIte, or_true, true_or, or_self, or_false, false_or]; done) | (simp only [shO, , eq_false c_1, eq_false c_7, rvC_l, rvC_r, rsC_l, rsC_r, upC_at, upC_upC, not_false_eq_true, not_true_eq_false, and_true, true_and, and_false, false_and, and_self, ↓reduceIte, or_true, true_or, or_self, or_false, false_or]; rfl))
set_option maxHeartbeats 4000000 in
set_option maxRecDepth 100000 in
theorem c_X5_drawSighted (l : Launch) (hlf : l.stackTraces = false) (g : GC) (M : HM) (x : Nat) (cs : CS) (i : Int32) (j : Int32) (o : Int32) (hW : ClsAt g M x cs) : KM g l yX5_drawSighted cX5_drawSighted 6 (some .int) 8 0 0 [.ref x, .int i, .int j, .int o] M (.inl (some (.int (rvC (sgO (cs 0) i j o))), (putC g M x (rsC cs (sgO (cs 0) i j o))))) := by
  refine k_meth hlf (by decide) (Nat.le_of_ble_eq_true rfl) fun p e s m below meth c ls hc hr hnx hM hS hl => ?_
  have hc : Cx g p l s m [.ref x, .int i, .int j, .int o].toArray meth c cX5_drawSighted 6 RX5 := hc
  have hx := hc.1
  have hb := hc.2.1
  have hl : lv_has ls 6 [(0, .ref x), (1, .int i), (2, .int j), (3, .int o)] := hl
  refine lv_aload_n hx hb dX5_drawSighted_0 rfl (lv_at hl 0 rfl) ?_
  refine gt_X5_10 hc dX5_drawSighted_1 hM hW.o rfl ?_
  refine gt_X5_116 hc dX5_drawSighted_4 hM (hW.flat (k := 0) (a := x + 1) (by decide) rfl).o rfl ?_
  refine lv_iload_n hx hb dX5_drawSighted_7 rfl (lv_at hl 1 rfl) ?_
  refine k_V1 hc [.int i] cw_X5_362 rfl dX5_drawSighted_8 (c_X3_has l hlf g _ (x + 2) 10 (cs 0 8 0) (cs 0 0) i ((hW.flat (k := 0) (a := x + 1) (by decide) rfl).row (k := 0) (r := x + 2) (by decide) rfl rfl)) ((hW.flat (k := 0) (a := x + 1) (by decide) rfl).row (k := 0) (r := x + 2) (by decide) rfl rfl).1 hM hS hl.1 rfl rfl ⟨Nat.le_of_ble_eq_true rfl, Nat.le_of_ble_eq_true rfl⟩ ⟨Nat.le_of_ble_eq_true rfl, Nat.le_of_ble_eq_true rfl⟩ (Nat.le_of_ble_eq_true rfl) (fun H locs hM hS => ?_)
  refine lv_if_ne (tgt := 21) hx hb dX5_drawSighted_11 (by decide) (fun c_11 => ?_) (fun c_11 => ?_)
  · skip
    have c_11 := bI_ne.mp c_11
    refine lv_aload_n hx hb dX5_drawSighted_21 rfl (lv_at hl 0 rfl) ?_
    refine gt_X5_10 hc dX5_drawSighted_22 hM hW.o rfl ?_
    refine gt_X5_131 hc dX5_drawSighted_25 hM (hW.flat (k := 0) (a := x + 1) (by decide) rfl).o rfl ?_
    refine lv_iload_n hx hb dX5_drawSighted_28 rfl (lv_at hl 2 rfl) ?_
    refine k_V1 hc [.int j] cw_X5_362 rfl dX5_drawSighted_29 (c_X3_has l hlf g _ (x + 4) 4 (cs 0 8 1) (cs 0 1) j ((hW.flat (k := 0) (a := x + 1) (by decide) rfl).row (k := 1) (r := x + 4) (by decide) rfl rfl)) ((hW.flat (k := 0) (a := x + 1) (by decide) rfl).row (k := 1) (r := x + 4) (by decide) rfl rfl).1 hM hS hl.1 rfl rfl ⟨Nat.le_of_ble_eq_true rfl, Nat.le_of_ble_eq_true rfl⟩ ⟨Nat.le_of_ble_eq_true rfl, Nat.le_of_ble_eq_true rfl⟩ (Nat.le_of_ble_eq_true rfl) (fun H locs hM hS => ?_)
    refine lv_if_ne (tgt := 42) hx hb dX5_drawSighted_32 (by decide) (fun c_32 => ?_) (fun c_32 => ?_)
    · skip
      have c_32 := bI_ne.mp c_32
      refine lv_aload_n hx hb dX5_drawSighted_42 rfl (lv_at hl 0 rfl) ?_
      refine gt_X5_10 hc dX5_drawSighted_43 hM hW.o rfl ?_
      refine lv_iload_n hx hb dX5_drawSighted_46 rfl (lv_at hl 3 rfl) ?_
      refine k_V1 hc [.int o] cw_X5_365 rfl dX5_drawSighted_47 (c_X0_hasSheet l hlf g _ (x + 1) (cs 0) o (hW.flat (k := 0) (a := x + 1) (by decide) rfl)) (hW.flat (k := 0) (a := x + 1) (by decide) rfl).o hM hS hl.1 rfl rfl ⟨Nat.le_of_ble_eq_true rfl, Nat.le_of_ble_eq_true rfl⟩ ⟨Nat.le_of_ble_eq_true rfl, Nat.le_of_ble_eq_true rfl⟩ (Nat.le_of_ble_eq_true rfl) (fun H locs hM hS => ?_)
      refine lv_if_ne (tgt := 60) hx hb dX5_drawSighted_50 (by decide) (fun c_50 => ?_) (fun c_50 => ?_)
      · skip
        have c_50 := bI_ne.mp c_50
        refine lv_aload_n hx hb dX5_drawSighted_60 rfl (lv_at hl 0 rfl) ?_
        refine gt_X5_10 hc dX5_drawSighted_61 hM hW.o rfl ?_
        refine lv_iload_n hx hb dX5_drawSighted_64 rfl (lv_at hl 1 rfl) ?_
        refine lv_iload_n hx hb dX5_drawSighted_65 rfl (lv_at hl 2 rfl) ?_
        refine k_V1 hc [.int i, .int j] cw_X5_368 rfl dX5_drawSighted_66 (c_X0_heatTooMuch l hlf g _ (x + 1) (cs 0) i j (hW.flat (k := 0) (a := x + 1) (by decide) rfl)) (hW.flat (k := 0) (a := x + 1) (by decide) rfl).o hM hS hl.1 rfl rfl ⟨Nat.le_of_ble_eq_true rfl, Nat.le_of_ble_eq_true rfl⟩ ⟨Nat.le_of_ble_eq_true rfl, Nat.le_of_ble_eq_true rfl⟩ (Nat.le_of_ble_eq_true rfl) (fun H locs hM hS => ?_)
        refine lv_istore (lv' := [(4, .int (htmF (cs 0) i j)), (0, .ref x), (1, .int i), (2, .int j), (3, .int o)]) hx hb dX5_drawSighted_69 hl (by decide) rfl (fun ls hl => ?_)
        refine lv_iload hx hb dX5_drawSighted_71 (lv_at hl 0 rfl) ?_
        refine lv_if_le (tgt := 84) hx hb dX5_drawSighted_73 (by decide) (fun c_73 => ?_) (fun c_73 => ?_)
        · skip
          refine lv_aload_n hx hb dX5_drawSighted_84 rfl (lv_at hl 1 rfl) ?_
          refine gt_X5_10 hc dX5_drawSighted_85 hM hW.o rfl ?_
          refine lv_iload_n hx hb dX5_drawSighted_88 rfl (lv_at hl 2 rfl) ?_
          refine lv_iload_n hx hb dX5_drawSighted_89 rfl (lv_at hl 3 rfl) ?_
          refine k_V1 hc [.int i, .int j] cw_X5_179 rfl dX5_drawSighted_90 (c_X0_seemingPlace l hlf g _ (x + 1) (cs 0) i j (hW.flat (k := 0) (a := x + 1) (by decide) rfl)) (hW.flat (k := 0) (a := x + 1) (by decide) rfl).o hM hS hl.1 rfl rfl ⟨Nat.le_of_ble_eq_true rfl, Nat.le_of_ble_eq_true rfl⟩ ⟨Nat.le_of_ble_eq_true rfl, Nat.le_of_ble_eq_true rfl⟩ (Nat.le_of_ble_eq_true rfl) (fun H locs hM hS => ?_)
          refine lv_istore (lv' := [(5, .int (seemF (cs 0) i j)), (4, .int (htmF (cs 0) i j)), (0, .ref x), (1, .int i), (2, .int j), (3, .int o)]) hx hb dX5_drawSighted_93 hl (by decide) rfl (fun ls hl => ?_)
          refine lv_aload_n hx hb dX5_drawSighted_95 rfl (lv_at hl 2 rfl) ?_
          refine gt_X5_10 hc dX5_drawSighted_96 hM hW.o rfl ?_
          refine lv_iload_n hx hb dX5_drawSighted_99 rfl (lv_at hl 3 rfl) ?_
          refine lv_iload_n hx hb dX5_drawSighted_100 rfl (lv_at hl 5 rfl) ?_
          refine lv_iload hx hb dX5_drawSighted_101 (lv_at hl 0 rfl) ?_
          refine k_V0 hc [.int i, .int o, .int (seemF (cs 0) i j)] cw_X5_371 rfl dX5_drawSighted_103 (c_X0_draw l hlf g _ (x + 1) (cs 0) i o (seemF (cs 0) i j) (hW.flat (k := 0) (a := x + 1) (by decide) rfl)) (hW.flat (k := 0) (a := x + 1) (by decide) rfl).o hM hS hl.1 rfl rfl ⟨Nat.le_of_ble_eq_true rfl, Nat.le_of_ble_eq_true rfl⟩ ⟨Nat.le_of_ble_eq_true rfl, Nat.le_of_ble_eq_true rfl⟩ (Nat.le_of_ble_eq_true rfl) (fun H locs hM hS => ?_)
          have hM := hR.eq hM (putC_flat hW (k := 0) (by decide) rfl)
          have hW := ClsAt.put (g := g) (M := M) (x := x) (cs := (upC cs 0 (up1 (cs 0) 3 (rset 30 ((cs 0) 8 3) ((cs 0) 3) (o * 10 + i) (seemF (cs 0) i j)))))
          refine lv_aload_n hx hb dX5_drawSighted_106 rfl (lv_at hl 2 rfl) ?_
          refine gt_X5_10 hc dX5_drawSighted_107 hM hW.o rfl ?_
          refine lv_dup hx hb dX5_drawSighted_110 rfl ?_
          refine gt_X5_327 hc dX5_drawSighted_111 hM (hW.flat (k := 0) (a := x + 1) (by decide) rfl).o rfl ?_
          refine lv_iconst (v := 1) hx hb dX5_drawSighted_114 (by decide) ?_
          refine lv_iadd hx hb dX5_drawSighted_115 ?_
          refine pt_X5_327 hc dX5_drawSighted_116 hM hS (hW.flat (k := 0) (a := x + 1) (by decide) rfl).o rfl rfl (Nat.le_of_ble_eq_true rfl) (fun H locs hM hS => ?_)
          have hM := hR.eq hM (putF_fld (hW.flat (k := 0) (a := x + 1) (by decide) rfl) 4 (v := (((upC cs 0 (up1 (cs 0) 3 (rset 30 ((cs 0) 8 3) ((cs 0) 3) (o * 10 + i) (seemF (cs 0) i j)))) 0 9 4) + 1)) fl_s4)
          have hM := hR.eq hM (putC_flat hW (k := 0) (by decide) rfl)
          have hM := hR.eq hM putC_putC
          have hW := ClsAt.put (g := g) (M := M) (x := x) (cs := (upC (upC cs 0 (up1 (cs 0) 3 (rset 30 ((cs 0) 8 3) ((cs 0) 3) (o * 10 + i) (seemF (cs 0) i j)))) 0 (up2 ((upC cs 0 (up1 (cs 0) 3 (rset 30 ((cs 0) 8 3) ((cs 0) 3) (o * 10 + i) (seemF (cs 0) i j)))) 0) 9 4 (((upC cs 0 (up1 (cs 0) 3 (rset 30 ((cs 0) 8 3) ((cs 0) 3) (o * 10 + i) (seemF (cs 0) i j)))) 0 9 4) + 1))))
          refine lv_iload hx hb dX5_drawSighted_119 (lv_at hl 0 rfl) ?_
          exact k_iret hc hr dX5_drawSighted_121 hM hS (Nat.le_of_ble_eq_true rfl) (Nat.le_of_ble_eq_true rfl) (by first | (simp only [sgO, sgF, , eq_true c_11, eq_true c_32, eq_true c_50, eq_true c_73, rvC_l, rvC_r, rsC_l, rsC_r, upC_at, upC_upC, not_false_eq_true, not_true_eq_false, and_true, true_and, and_false, false_and, and_self, ↓reduceIte, or_true, true_or, or_self, or_false, false_or]; done) | (simp only [sgO, sgF, , eq_true c_11, eq_true c_32, eq_true c_50, eq_true c_73, rvC_l, rvC_r, rsC_l, rsC_r, upC_at, upC_upC, not_false_eq_true, not_true_eq_false, and_true, true_and, and_false, false_and, and_self, ↓reduceIte, or_true, true_or, or_self, or_false, false_or]; rfl))
        · skip
          refine lv_aload_n hx hb dX5_drawSighted_76 rfl (lv_at hl 1 rfl) ?_
          refine lv_iconst (v := 5) hx hb dX5_drawSighted_77 (by decide) ?_
          refine lv_iload hx hb dX5_drawSighted_78 (lv_at hl 0 rfl) ?_
          refine k_V1 hc [.int 5, .int (htmF (cs 0) i j)] cw_X5_352 rfl dX5_drawSighted_80 (c_X5_refuse l hlf g _ x cs 5 (htmF (cs 0) i j) hW) hW.o hM hS hl.1 rfl rfl ⟨Nat.le_of_ble_eq_true rfl, Nat.le_of_ble_eq_true rfl⟩ ⟨Nat.le_of_ble_eq_true rfl, Nat.le_of_ble_eq_true rfl⟩ (Nat.le_of_ble_eq_true rfl) (fun H locs hM hS => ?_)
          have hW := ClsAt.put (g := g) (M := M) (x := x) (cs := (rfS cs 5 (htmF (cs 0) i j)))
          exact k_iret hc hr dX5_drawSighted_83 hM hS (Nat.le_of_ble_eq_true rfl) (Nat.le_of_ble_eq_true rfl) (by first | (simp only [sgO, sgF, , eq_true c_11, eq_true c_32, eq_true c_50, eq_false c_73, rvC_l, rvC_r, rsC_l, rsC_r, upC_at, upC_upC, not_false_eq_true, not_true_eq_false, and_true, true_and, and_false, false_and, and_self, ↓reduceIte, or_true, true_or, or_self, or_false, false_or]; done) | (simp only [sgO, sgF, , eq_true c_11, eq_true c_32, eq_true c_50, eq_false c_73, rvC_l, rvC_r, rsC_l, rsC_r, upC_at, upC_upC, not_false_eq_true, not_true_eq_false, and_true, true_and, and_false, false_and, and_self, ↓reduceIte, or_true, true_or, or_self, or_false, false_or]; rfl))
      · skip
        have c_50 := bI_eq.mp c_50
        refine lv_aload_n hx hb dX5_drawSighted_53 rfl (lv_at hl 0 rfl) ?_
        refine lv_iconst (v := 3) hx hb dX5_drawSighted_54 (by decide) ?_
        refine lv_iload_n hx hb dX5_drawSighted_55 rfl (lv_at hl 3 rfl) ?_
        refine k_V1 hc [.int 3, .int o] cw_X5_352 rfl dX5_drawSighted_56 (c_X5_refuse l hlf g _ x cs 3 o hW) hW.o hM hS hl.1 rfl rfl ⟨Nat.le_of_ble_eq_true rfl, Nat.le_of_ble_eq_true rfl⟩ ⟨Nat.le_of_ble_eq_true rfl, Nat.le_of_ble_eq_true rfl⟩ (Nat.le_of_ble_eq_true rfl) (fun H locs hM hS => ?_)
        have hW := ClsAt.put (g := g) (M := M) (x := x) (cs := (rfS cs 3 o))
        exact k_iret hc hr dX5_drawSighted_59 hM hS (Nat.le_of_ble_eq_true rfl) (Nat.le_of_ble_eq_true rfl) (by first | (simp only [sgO, sgF, , eq_true c_11, eq_true c_32, eq_false c_50, rvC_l, rvC_r, rsC_l, rsC_r, upC_at, upC_upC, not_false_eq_true, not_true_eq_false, and_true, true_and, and_false, false_and, and_self, ↓reduceIte, or_true, true_or, or_self, or_false, false_or]; done) | (simp only [sgO, sgF, , eq_true c_11, eq_true c_32, eq_false c_50, rvC_l, rvC_r, rsC_l, rsC_r, upC_at, upC_upC, not_false_eq_true, not_true_eq_false, and_true, true_and, and_false, false_and, and_self, ↓reduceIte, or_true, true_or, or_self, or_false, false_or]; rfl))
    · skip
      have c_32 := bI_eq.mp c_32
      refine lv_aload_n hx hb dX5_drawSighted_35 rfl (lv_at hl 0 rfl) ?_
      refine lv_iconst (v := 3) hx hb dX5_drawSighted_36 (by decide) ?_
      refine lv_iload_n hx hb dX5_drawSighted_37 rfl (lv_at hl 2 rfl) ?_
      refine k_V1 hc [.int 3, .int j] cw_X5_352 rfl dX5_drawSighted_38 (c_X5_refuse l hlf g _ x cs 3 j hW) hW.o hM hS hl.1 rfl rfl ⟨Nat.le_of_ble_eq_true rfl, Nat.le_of_ble_eq_true rfl⟩ ⟨Nat.le_of_ble_eq_true rfl, Nat.le_of_ble_eq_true rfl⟩ (Nat.le_of_ble_eq_true rfl) (fun H locs hM hS => ?_)
      have hW := ClsAt.put (g := g) (M := M) (x := x) (cs := (rfS cs 3 j))
      exact k_iret hc hr dX5_drawSighted_41 hM hS (Nat.le_of_ble_eq_true rfl) (Nat.le_of_ble_eq_true rfl) (by first | (simp only [sgO, sgF, , eq_true c_11, eq_false c_32, rvC_l, rvC_r, rsC_l, rsC_r, upC_at, upC_upC, not_false_eq_true, not_true_eq_false, and_true, true_and, and_false, false_and, and_self, ↓reduceIte, or_true, true_or, or_self, or_false, false_or]; done) | (simp only [sgO, sgF, , eq_true c_11, eq_false c_32, rvC_l, rvC_r, rsC_l, rsC_r, upC_at, upC_upC, not_false_eq_true, not_true_eq_false, and_true, true_and, and_false, false_and, and_self, ↓reduceIte, or_true, true_or, or_self, or_false, false_or]; rfl))
  · skip
    have c_11 := bI_eq.mp c_11
    refine lv_aload_n hx hb dX5_drawSighted_14 rfl (lv_at hl 0 rfl) ?_
    refine lv_iconst (v := 3) hx hb dX5_drawSighted_15 (by decide) ?_
    refine lv_iload_n hx hb dX5_drawSighted_16 rfl (lv_at hl 1 rfl) ?_
    refine k_V1 hc [.int 3, .int i] cw_X5_352 rfl dX5_drawSighted_17 (c_X5_refuse l hlf g _ x cs 3 i hW) hW.o hM hS hl.1 rfl rfl ⟨Nat.le_of_ble_eq_true rfl, Nat.le_of_ble_eq_true rfl⟩ ⟨Nat.le_of_ble_eq_true rfl, Nat.le_of_ble_eq_true rfl⟩ (Nat.le_of_ble_eq_true rfl) (fun H locs hM hS => ?_)
    have hW := ClsAt.put (g := g) (M := M) (x := x) (cs := (rfS cs 3 i))
    exact k_iret hc hr dX5_drawSighted_20 hM hS (Nat.le_of_ble_eq_true rfl) (Nat.le_of_ble_eq_true rfl) (by first | (simp only [sgO, sgF, , eq_false c_11, rvC_l, rvC_r, rsC_l, rsC_r, upC_at, upC_upC, not_false_eq_true, not_true_eq_false, and_true, true_and, and_false, false_and, and_self, ↓reduceIte, or_true, true_or, or_self, or_false, false_or]; done) | (simp only [sgO, sgF, , eq_false c_11, rvC_l, rvC_r, rsC_l, rsC_r, upC_at, upC_upC, not_false_eq_true, not_true_eq_false, and_true, true_and, and_false, false_and, and_self, ↓reduceIte, or_true, true_or, or_self, or_false, false_or]; rfl))
set_option maxHeartbeats 4000000 in
set_option maxRecDepth 100000 in
theorem c_X5_eraseDrawn (l : Launch) (hlf : l.stackTraces = false) (g : GC) (M : HM) (x : Nat) (cs : CS) (i : Int32) (j : Int32) (hW : ClsAt g M x cs) : KM g l yX5_eraseDrawn cX5_eraseDrawn 4 (some .int) 3 0 0 [.ref x, .int i, .int j] M (.inl (some (.int (rvC (erO (cs 0) i j))), (putC g M x (rsC cs (erO (cs 0) i j))))) := by
  refine k_meth hlf (by decide) (Nat.le_of_ble_eq_true rfl) fun p e s m below meth c ls hc hr hnx hM hS hl => ?_
  have hc : Cx g p l s m [.ref x, .int i, .int j].toArray meth c cX5_eraseDrawn 4 RX5 := hc
  have hx := hc.1
  have hb := hc.2.1
  have hl : lv_has ls 4 [(0, .ref x), (1, .int i), (2, .int j)] := hl
  refine lv_aload_n hx hb dX5_eraseDrawn_0 rfl (lv_at hl 0 rfl) ?_
  refine gt_X5_10 hc dX5_eraseDrawn_1 hM hW.o rfl ?_
  refine gt_X5_116 hc dX5_eraseDrawn_4 hM (hW.flat (k := 0) (a := x + 1) (by decide) rfl).o rfl ?_
  refine lv_iload_n hx hb dX5_eraseDrawn_7 rfl (lv_at hl 1 rfl) ?_
  refine k_V1 hc [.int i] cw_X5_362 rfl dX5_eraseDrawn_8 (c_X3_has l hlf g _ (x + 2) 10 (cs 0 8 0) (cs 0 0) i ((hW.flat (k := 0) (a := x + 1) (by decide) rfl).row (k := 0) (r := x + 2) (by decide) rfl rfl)) ((hW.flat (k := 0) (a := x + 1) (by decide) rfl).row (k := 0) (r := x + 2) (by decide) rfl rfl).1 hM hS hl.1 rfl rfl ⟨Nat.le_of_ble_eq_true rfl, Nat.le_of_ble_eq_true rfl⟩ ⟨Nat.le_of_ble_eq_true rfl, Nat.le_of_ble_eq_true rfl⟩ (Nat.le_of_ble_eq_true rfl) (fun H locs hM hS => ?_)
  refine lv_if_ne (tgt := 21) hx hb dX5_eraseDrawn_11 (by decide) (fun c_11 => ?_) (fun c_11 => ?_)
  · skip
    have c_11 := bI_ne.mp c_11
    refine lv_aload_n hx hb dX5_eraseDrawn_21 rfl (lv_at hl 0 rfl) ?_
    refine gt_X5_10 hc dX5_eraseDrawn_22 hM hW.o rfl ?_
    refine lv_iload_n hx hb dX5_eraseDrawn_25 rfl (lv_at hl 2 rfl) ?_
    refine k_V1 hc [.int j] cw_X5_365 rfl dX5_eraseDrawn_26 (c_X0_hasSheet l hlf g _ (x + 1) (cs 0) j (hW.flat (k := 0) (a := x + 1) (by decide) rfl)) (hW.flat (k := 0) (a := x + 1) (by decide) rfl).o hM hS hl.1 rfl rfl ⟨Nat.le_of_ble_eq_true rfl, Nat.le_of_ble_eq_true rfl⟩ ⟨Nat.le_of_ble_eq_true rfl, Nat.le_of_ble_eq_true rfl⟩ (Nat.le_of_ble_eq_true rfl) (fun H locs hM hS => ?_)
    refine lv_if_ne (tgt := 39) hx hb dX5_eraseDrawn_29 (by decide) (fun c_29 => ?_) (fun c_29 => ?_)
    · skip
      have c_29 := bI_ne.mp c_29
      refine lv_aload_n hx hb dX5_eraseDrawn_39 rfl (lv_at hl 0 rfl) ?_
      refine gt_X5_10 hc dX5_eraseDrawn_40 hM hW.o rfl ?_
      refine lv_iload_n hx hb dX5_eraseDrawn_43 rfl (lv_at hl 1 rfl) ?_
      refine lv_iload_n hx hb dX5_eraseDrawn_44 rfl (lv_at hl 2 rfl) ?_
      refine k_V1 hc [.int i, .int j] cw_X5_163 rfl dX5_eraseDrawn_45 (c_X0_drawnPlace l hlf g _ (x + 1) (cs 0) i j (hW.flat (k := 0) (a := x + 1) (by decide) rfl)) (hW.flat (k := 0) (a := x + 1) (by decide) rfl).o hM hS hl.1 rfl rfl ⟨Nat.le_of_ble_eq_true rfl, Nat.le_of_ble_eq_true rfl⟩ ⟨Nat.le_of_ble_eq_true rfl, Nat.le_of_ble_eq_true rfl⟩ (Nat.le_of_ble_eq_true rfl) (fun H locs hM hS => ?_)
      refine lv_istore_n (lv' := [(3, .int (drawnF (cs 0) i j)), (0, .ref x), (1, .int i), (2, .int j)]) hx hb dX5_eraseDrawn_48 rfl hl (by decide) rfl (fun ls hl => ?_)
      refine lv_iload_n hx hb dX5_eraseDrawn_49 rfl (lv_at hl 0 rfl) ?_
      refine lv_iconst (v := (-1)) hx hb dX5_eraseDrawn_50 (by decide) ?_
      refine lv_icmp_ne (tgt := 62) hx hb dX5_eraseDrawn_51 (by decide) (fun c_51 => ?_) (fun c_51 => ?_)
      · skip
        refine lv_aload_n hx hb dX5_eraseDrawn_62 rfl (lv_at hl 1 rfl) ?_
        refine gt_X5_10 hc dX5_eraseDrawn_63 hM hW.o rfl ?_
        refine lv_iload_n hx hb dX5_eraseDrawn_66 rfl (lv_at hl 2 rfl) ?_
        refine lv_iload_n hx hb dX5_eraseDrawn_67 rfl (lv_at hl 3 rfl) ?_
        refine lv_iconst (v := (-1)) hx hb dX5_eraseDrawn_68 (by decide) ?_
        refine k_V0 hc [.int i, .int j, .int (-1)] cw_X5_371 rfl dX5_eraseDrawn_69 (c_X0_draw l hlf g _ (x + 1) (cs 0) i j (-1) (hW.flat (k := 0) (a := x + 1) (by decide) rfl)) (hW.flat (k := 0) (a := x + 1) (by decide) rfl).o hM hS hl.1 rfl rfl ⟨Nat.le_of_ble_eq_true rfl, Nat.le_of_ble_eq_true rfl⟩ ⟨Nat.le_of_ble_eq_true rfl, Nat.le_of_ble_eq_true rfl⟩ (Nat.le_of_ble_eq_true rfl) (fun H locs hM hS => ?_)
        have hM := hR.eq hM (putC_flat hW (k := 0) (by decide) rfl)
        have hW := ClsAt.put (g := g) (M := M) (x := x) (cs := (upC cs 0 (up1 (cs 0) 3 (rset 30 ((cs 0) 8 3) ((cs 0) 3) (j * 10 + i) (-1)))))
        refine lv_iload_n hx hb dX5_eraseDrawn_72 rfl (lv_at hl 0 rfl) ?_
        exact k_iret hc hr dX5_eraseDrawn_73 hM hS (Nat.le_of_ble_eq_true rfl) (Nat.le_of_ble_eq_true rfl) (by first | (simp only [erO, sgF, , eq_true c_11, eq_true c_29, eq_false c_51, rvC_l, rvC_r, rsC_l, rsC_r, upC_at, upC_upC, not_false_eq_true, not_true_eq_false, and_true, true_and, and_false, false_and, and_self, ↓reduceIte, or_true, true_or, or_self, or_false, false_or]; done) | (simp only [erO, sgF, , eq_true c_11, eq_true c_29, eq_false c_51, rvC_l, rvC_r, rsC_l, rsC_r, upC_at, upC_upC, not_false_eq_true, not_true_eq_false, and_true, true_and, and_false, false_and, and_self, ↓reduceIte, or_true, true_or, or_self, or_false, false_or]; rfl))
      · skip
        refine lv_aload_n hx hb dX5_eraseDrawn_54 rfl (lv_at hl 1 rfl) ?_
        refine lv_bipush (v := 6) hx hb dX5_eraseDrawn_55 (by decide) ?_
        refine lv_iload_n hx hb dX5_eraseDrawn_57 rfl (lv_at hl 2 rfl) ?_
        refine k_V1 hc [.int 6, .int i] cw_X5_352 rfl dX5_eraseDrawn_58 (c_X5_refuse l hlf g _ x cs 6 i hW) hW.o hM hS hl.1 rfl rfl ⟨Nat.le_of_ble_eq_true rfl, Nat.le_of_ble_eq_true rfl⟩ ⟨Nat.le_of_ble_eq_true rfl, Nat.le_of_ble_eq_true rfl⟩ (Nat.le_of_ble_eq_true rfl) (fun H locs hM hS => ?_)
        have hW := ClsAt.put (g := g) (M := M) (x := x) (cs := (rfS cs 6 i))
        exact k_iret hc hr dX5_eraseDrawn_61 hM hS (Nat.le_of_ble_eq_true rfl) (Nat.le_of_ble_eq_true rfl) (by first | (simp only [erO, sgF, , eq_true c_11, eq_true c_29, eq_true c_51, rvC_l, rvC_r, rsC_l, rsC_r, upC_at, upC_upC, not_false_eq_true, not_true_eq_false, and_true, true_and, and_false, false_and, and_self, ↓reduceIte, or_true, true_or, or_self, or_false, false_or]; done) | (simp only [erO, sgF, , eq_true c_11, eq_true c_29, eq_true c_51, rvC_l, rvC_r, rsC_l, rsC_r, upC_at, upC_upC, not_false_eq_true, not_true_eq_false, and_true, true_and, and_false, false_and, and_self, ↓reduceIte, or_true, true_or, or_self, or_false, false_or]; rfl))
    · skip
      have c_29 := bI_eq.mp c_29
      refine lv_aload_n hx hb dX5_eraseDrawn_32 rfl (lv_at hl 0 rfl) ?_
      refine lv_iconst (v := 3) hx hb dX5_eraseDrawn_33 (by decide) ?_
      refine lv_iload_n hx hb dX5_eraseDrawn_34 rfl (lv_at hl 2 rfl) ?_
      refine k_V1 hc [.int 3, .int j] cw_X5_352 rfl dX5_eraseDrawn_35 (c_X5_refuse l hlf g _ x cs 3 j hW) hW.o hM hS hl.1 rfl rfl ⟨Nat.le_of_ble_eq_true rfl, Nat.le_of_ble_eq_true rfl⟩ ⟨Nat.le_of_ble_eq_true rfl, Nat.le_of_ble_eq_true rfl⟩ (Nat.le_of_ble_eq_true rfl) (fun H locs hM hS => ?_)
      have hW := ClsAt.put (g := g) (M := M) (x := x) (cs := (rfS cs 3 j))
      exact k_iret hc hr dX5_eraseDrawn_38 hM hS (Nat.le_of_ble_eq_true rfl) (Nat.le_of_ble_eq_true rfl) (by first | (simp only [erO, sgF, , eq_true c_11, eq_false c_29, rvC_l, rvC_r, rsC_l, rsC_r, upC_at, upC_upC, not_false_eq_true, not_true_eq_false, and_true, true_and, and_false, false_and, and_self, ↓reduceIte, or_true, true_or, or_self, or_false, false_or]; done) | (simp only [erO, sgF, , eq_true c_11, eq_false c_29, rvC_l, rvC_r, rsC_l, rsC_r, upC_at, upC_upC, not_false_eq_true, not_true_eq_false, and_true, true_and, and_false, false_and, and_self, ↓reduceIte, or_true, true_or, or_self, or_false, false_or]; rfl))
  · skip
    have c_11 := bI_eq.mp c_11
    refine lv_aload_n hx hb dX5_eraseDrawn_14 rfl (lv_at hl 0 rfl) ?_
    refine lv_iconst (v := 3) hx hb dX5_eraseDrawn_15 (by decide) ?_
    refine lv_iload_n hx hb dX5_eraseDrawn_16 rfl (lv_at hl 1 rfl) ?_
    refine k_V1 hc [.int 3, .int i] cw_X5_352 rfl dX5_eraseDrawn_17 (c_X5_refuse l hlf g _ x cs 3 i hW) hW.o hM hS hl.1 rfl rfl ⟨Nat.le_of_ble_eq_true rfl, Nat.le_of_ble_eq_true rfl⟩ ⟨Nat.le_of_ble_eq_true rfl, Nat.le_of_ble_eq_true rfl⟩ (Nat.le_of_ble_eq_true rfl) (fun H locs hM hS => ?_)
    have hW := ClsAt.put (g := g) (M := M) (x := x) (cs := (rfS cs 3 i))
    exact k_iret hc hr dX5_eraseDrawn_20 hM hS (Nat.le_of_ble_eq_true rfl) (Nat.le_of_ble_eq_true rfl) (by first | (simp only [erO, sgF, , eq_false c_11, rvC_l, rvC_r, rsC_l, rsC_r, upC_at, upC_upC, not_false_eq_true, not_true_eq_false, and_true, true_and, and_false, false_and, and_self, ↓reduceIte, or_true, true_or, or_self, or_false, false_or]; done) | (simp only [erO, sgF, , eq_false c_11, rvC_l, rvC_r, rsC_l, rsC_r, upC_at, upC_upC, not_false_eq_true, not_true_eq_false, and_true, true_and, and_false, false_and, and_self, ↓reduceIte, or_true, true_or, or_self, or_false, false_or]; rfl))
set_option maxHeartbeats 4000000 in
set_option maxRecDepth 100000 in
theorem c_X5_bringCamel (l : Launch) (hlf : l.stackTraces = false) (g : GC) (M : HM) (x : Nat) (cs : CS) (i : Int32) (hW : ClsAt g M x cs) : KM g l yX5_bringCamel cX5_bringCamel 2 (some .int) 2 0 0 [.ref x, .int i] M (.inl (some (.int (rvC (caO (cs 0) i))), (putC g M x (rsC cs (caO (cs 0) i))))) := by
  refine k_meth hlf (by decide) (Nat.le_of_ble_eq_true rfl) fun p e s m below meth c ls hc hr hnx hM hS hl => ?_
  have hc : Cx g p l s m [.ref x, .int i].toArray meth c cX5_bringCamel 2 RX5 := hc
  have hx := hc.1
  have hb := hc.2.1
  have hl : lv_has ls 2 [(0, .ref x), (1, .int i)] := hl
  refine lv_iload_n hx hb dX5_bringCamel_0 rfl (lv_at hl 1 rfl) ?_
  refine k_S1 hc [.int i] cw_X5_215 dX5_bringCamel_1 (c_X5_isPlace l hlf g _ i) hM hS hl.1 rfl rfl ⟨Nat.le_of_ble_eq_true rfl, Nat.le_of_ble_eq_true rfl⟩ ⟨Nat.le_of_ble_eq_true rfl, Nat.le_of_ble_eq_true rfl⟩ (Nat.le_of_ble_eq_true rfl) (fun H locs hM hS => ?_)
  refine lv_if_ne (tgt := 14) hx hb dX5_bringCamel_4 (by decide) (fun c_4 => ?_) (fun c_4 => ?_)
  · skip
    have c_4 := bI_ne.mp c_4
    refine lv_aload_n hx hb dX5_bringCamel_14 rfl (lv_at hl 0 rfl) ?_
    refine gt_X5_10 hc dX5_bringCamel_15 hM hW.o rfl ?_
    refine gt_X5_137 hc dX5_bringCamel_18 hM (hW.flat (k := 0) (a := x + 1) (by decide) rfl).o rfl ?_
    refine k_V1 hc [] cw_X5_355 rfl dX5_bringCamel_21 (c_X3_isFull l hlf g _ (x + 10) 6 (cs 0 8 4) (cs 0 4) ((hW.flat (k := 0) (a := x + 1) (by decide) rfl).row (k := 4) (r := x + 10) (by decide) rfl rfl)) ((hW.flat (k := 0) (a := x + 1) (by decide) rfl).row (k := 4) (r := x + 10) (by decide) rfl rfl).1 hM hS hl.1 rfl rfl ⟨Nat.le_of_ble_eq_true rfl, Nat.le_of_ble_eq_true rfl⟩ ⟨Nat.le_of_ble_eq_true rfl, Nat.le_of_ble_eq_true rfl⟩ (Nat.le_of_ble_eq_true rfl) (fun H locs hM hS => ?_)
    refine lv_if_eq (tgt := 35) hx hb dX5_bringCamel_24 (by decide) (fun c_24 => ?_) (fun c_24 => ?_)
    · skip
      have c_24 := bI_eq.mp c_24
      refine lv_aload_n hx hb dX5_bringCamel_35 rfl (lv_at hl 0 rfl) ?_
      refine gt_X5_10 hc dX5_bringCamel_36 hM hW.o rfl ?_
      refine gt_X5_140 hc dX5_bringCamel_39 hM (hW.flat (k := 0) (a := x + 1) (by decide) rfl).o rfl ?_
      refine lv_iconst (v := 0) hx hb dX5_bringCamel_42 (by decide) ?_
      refine k_V1 hc [.int 0] cw_X5_359 rfl dX5_bringCamel_43 (c_X3_add l hlf g _ (x + 12) 6 (cs 0 8 5) (cs 0 5) 0 ((hW.flat (k := 0) (a := x + 1) (by decide) rfl).row (k := 5) (r := x + 12) (by decide) rfl rfl) (by decide)) ((hW.flat (k := 0) (a := x + 1) (by decide) rfl).row (k := 5) (r := x + 12) (by decide) rfl rfl).1 hM hS hl.1 rfl rfl ⟨Nat.le_of_ble_eq_true rfl, Nat.le_of_ble_eq_true rfl⟩ ⟨Nat.le_of_ble_eq_true rfl, Nat.le_of_ble_eq_true rfl⟩ (Nat.le_of_ble_eq_true rfl) (fun H locs hM hS => ?_)
      have hM := hR.eq hM (putF_row (hW.flat (k := 0) (a := x + 1) (by decide) rfl) (k := 5) (by decide) rfl rfl)
      have hM := hR.eq hM (putC_flat hW (k := 0) (by decide) rfl)
      have hW := ClsAt.put (g := g) (M := M) (x := x) (cs := (upC cs 0 (upR (cs 0) 5 (if rroom 6 (cs 0 8 5) then (cs 0 8 5) + 1 else (cs 0 8 5)) (if rroom 6 (cs 0 8 5) then upd (cs 0 5) ((cs 0 8 5)).toNatClampNeg 0 else (cs 0 5)))))
      refine lv_pop hx hb dX5_bringCamel_46 rfl ?_
      refine lv_aload_n hx hb dX5_bringCamel_47 rfl (lv_at hl 0 rfl) ?_
      refine gt_X5_10 hc dX5_bringCamel_48 hM hW.o rfl ?_
      refine gt_X5_143 hc dX5_bringCamel_51 hM (hW.flat (k := 0) (a := x + 1) (by decide) rfl).o rfl ?_
      refine lv_iconst (v := 0) hx hb dX5_bringCamel_54 (by decide) ?_
      refine k_V1 hc [.int 0] cw_X5_359 rfl dX5_bringCamel_55 (c_X3_add l hlf g _ (x + 14) 6 ((upC cs 0 (upR (cs 0) 5 (if rroom 6 (cs 0 8 5) then (cs 0 8 5) + 1 else (cs 0 8 5)) (if rroom 6 (cs 0 8 5) then upd (cs 0 5) ((cs 0 8 5)).toNatClampNeg 0 else (cs 0 5)))) 0 8 6) ((upC cs 0 (upR (cs 0) 5 (if rroom 6 (cs 0 8 5) then (cs 0 8 5) + 1 else (cs 0 8 5)) (if rroom 6 (cs 0 8 5) then upd (cs 0 5) ((cs 0 8 5)).toNatClampNeg 0 else (cs 0 5)))) 0 6) 0 ((hW.flat (k := 0) (a := x + 1) (by decide) rfl).row (k := 6) (r := x + 14) (by decide) rfl rfl) (by decide)) ((hW.flat (k := 0) (a := x + 1) (by decide) rfl).row (k := 6) (r := x + 14) (by decide) rfl rfl).1 hM hS hl.1 rfl rfl ⟨Nat.le_of_ble_eq_true rfl, Nat.le_of_ble_eq_true rfl⟩ ⟨Nat.le_of_ble_eq_true rfl, Nat.le_of_ble_eq_true rfl⟩ (Nat.le_of_ble_eq_true rfl) (fun H locs hM hS => ?_)
      have hM := hR.eq hM (putF_row (hW.flat (k := 0) (a := x + 1) (by decide) rfl) (k := 6) (by decide) rfl rfl)
      have hM := hR.eq hM (putC_flat hW (k := 0) (by decide) rfl)
      have hM := hR.eq hM putC_putC
      have hW := ClsAt.put (g := g) (M := M) (x := x) (cs := (upC (upC cs 0 (upR (cs 0) 5 (if rroom 6 (cs 0 8 5) then (cs 0 8 5) + 1 else (cs 0 8 5)) (if rroom 6 (cs 0 8 5) then upd (cs 0 5) ((cs 0 8 5)).toNatClampNeg 0 else (cs 0 5)))) 0 (upR ((upC cs 0 (upR (cs 0) 5 (if rroom 6 (cs 0 8 5) then (cs 0 8 5) + 1 else (cs 0 8 5)) (if rroom 6 (cs 0 8 5) then upd (cs 0 5) ((cs 0 8 5)).toNatClampNeg 0 else (cs 0 5)))) 0) 6 (if rroom 6 ((upC cs 0 (upR (cs 0) 5 (if rroom 6 (cs 0 8 5) then (cs 0 8 5) + 1 else (cs 0 8 5)) (if rroom 6 (cs 0 8 5) then upd (cs 0 5) ((cs 0 8 5)).toNatClampNeg 0 else (cs 0 5)))) 0 8 6) then ((upC cs 0 (upR (cs 0) 5 (if rroom 6 (cs 0 8 5) then (cs 0 8 5) + 1 else (cs 0 8 5)) (if rroom 6 (cs 0 8 5) then upd (cs 0 5) ((cs 0 8 5)).toNatClampNeg 0 else (cs 0 5)))) 0 8 6) + 1 else ((upC cs 0 (upR (cs 0) 5 (if rroom 6 (cs 0 8 5) then (cs 0 8 5) + 1 else (cs 0 8 5)) (if rroom 6 (cs 0 8 5) then upd (cs 0 5) ((cs 0 8 5)).toNatClampNeg 0 else (cs 0 5)))) 0 8 6)) (if rroom 6 ((upC cs 0 (upR (cs 0) 5 (if rroom 6 (cs 0 8 5) then (cs 0 8 5) + 1 else (cs 0 8 5)) (if rroom 6 (cs 0 8 5) then upd (cs 0 5) ((cs 0 8 5)).toNatClampNeg 0 else (cs 0 5)))) 0 8 6) then upd ((upC cs 0 (upR (cs 0) 5 (if rroom 6 (cs 0 8 5) then (cs 0 8 5) + 1 else (cs 0 8 5)) (if rroom 6 (cs 0 8 5) then upd (cs 0 5) ((cs 0 8 5)).toNatClampNeg 0 else (cs 0 5)))) 0 6) (((upC cs 0 (upR (cs 0) 5 (if rroom 6 (cs 0 8 5) then (cs 0 8 5) + 1 else (cs 0 8 5)) (if rroom 6 (cs 0 8 5) then upd (cs 0 5) ((cs 0 8 5)).toNatClampNeg 0 else (cs 0 5)))) 0 8 6)).toNatClampNeg 0 else ((upC cs 0 (upR (cs 0) 5 (if rroom 6 (cs 0 8 5) then (cs 0 8 5) + 1 else (cs 0 8 5)) (if rroom 6 (cs 0 8 5) then upd (cs 0 5) ((cs 0 8 5)).toNatClampNeg 0 else (cs 0 5)))) 0 6)))))
      refine lv_pop hx hb dX5_bringCamel_58 rfl ?_
      refine lv_aload_n hx hb dX5_bringCamel_59 rfl (lv_at hl 0 rfl) ?_
      refine gt_X5_10 hc dX5_bringCamel_60 hM hW.o rfl ?_
      refine gt_X5_150 hc dX5_bringCamel_63 hM (hW.flat (k := 0) (a := x + 1) (by decide) rfl).o rfl ?_
      refine lv_iconst (v := 0) hx hb dX5_bringCamel_66 (by decide) ?_
      refine k_V1 hc [.int 0] cw_X5_359 rfl dX5_bringCamel_67 (c_X3_add l hlf g _ (x + 16) 6 ((upC (upC cs 0 (upR (cs 0) 5 (if rroom 6 (cs 0 8 5) then (cs 0 8 5) + 1 else (cs 0 8 5)) (if rroom 6 (cs 0 8 5) then upd (cs 0 5) ((cs 0 8 5)).toNatClampNeg 0 else (cs 0 5)))) 0 (upR ((upC cs 0 (upR (cs 0) 5 (if rroom 6 (cs 0 8 5) then (cs 0 8 5) + 1 else (cs 0 8 5)) (if rroom 6 (cs 0 8 5) then upd (cs 0 5) ((cs 0 8 5)).toNatClampNeg 0 else (cs 0 5)))) 0) 6 (if rroom 6 ((upC cs 0 (upR (cs 0) 5 (if rroom 6 (cs 0 8 5) then (cs 0 8 5) + 1 else (cs 0 8 5)) (if rroom 6 (cs 0 8 5) then upd (cs 0 5) ((cs 0 8 5)).toNatClampNeg 0 else (cs 0 5)))) 0 8 6) then ((upC cs 0 (upR (cs 0) 5 (if rroom 6 (cs 0 8 5) then (cs 0 8 5) + 1 else (cs 0 8 5)) (if rroom 6 (cs 0 8 5) then upd (cs 0 5) ((cs 0 8 5)).toNatClampNeg 0 else (cs 0 5)))) 0 8 6) + 1 else ((upC cs 0 (upR (cs 0) 5 (if rroom 6 (cs 0 8 5) then (cs 0 8 5) + 1 else (cs 0 8 5)) (if rroom 6 (cs 0 8 5) then upd (cs 0 5) ((cs 0 8 5)).toNatClampNeg 0 else (cs 0 5)))) 0 8 6)) (if rroom 6 ((upC cs 0 (upR (cs 0) 5 (if rroom 6 (cs 0 8 5) then (cs 0 8 5) + 1 else (cs 0 8 5)) (if rroom 6 (cs 0 8 5) then upd (cs 0 5) ((cs 0 8 5)).toNatClampNeg 0 else (cs 0 5)))) 0 8 6) then upd ((upC cs 0 (upR (cs 0) 5 (if rroom 6 (cs 0 8 5) then (cs 0 8 5) + 1 else (cs 0 8 5)) (if rroom 6 (cs 0 8 5) then upd (cs 0 5) ((cs 0 8 5)).toNatClampNeg 0 else (cs 0 5)))) 0 6) (((upC cs 0 (upR (cs 0) 5 (if rroom 6 (cs 0 8 5) then (cs 0 8 5) + 1 else (cs 0 8 5)) (if rroom 6 (cs 0 8 5) then upd (cs 0 5) ((cs 0 8 5)).toNatClampNeg 0 else (cs 0 5)))) 0 8 6)).toNatClampNeg 0 else ((upC cs 0 (upR (cs 0) 5 (if rroom 6 (cs 0 8 5) then (cs 0 8 5) + 1 else (cs 0 8 5)) (if rroom 6 (cs 0 8 5) then upd (cs 0 5) ((cs 0 8 5)).toNatClampNeg 0 else (cs 0 5)))) 0 6)))) 0 8 7) ((upC (upC cs 0 (upR (cs 0) 5 (if rroom 6 (cs 0 8 5) then (cs 0 8 5) + 1 else (cs 0 8 5)) (if rroom 6 (cs 0 8 5) then upd (cs 0 5) ((cs 0 8 5)).toNatClampNeg 0 else (cs 0 5)))) 0 (upR ((upC cs 0 (upR (cs 0) 5 (if rroom 6 (cs 0 8 5) then (cs 0 8 5) + 1 else (cs 0 8 5)) (if rroom 6 (cs 0 8 5) then upd (cs 0 5) ((cs 0 8 5)).toNatClampNeg 0 else (cs 0 5)))) 0) 6 (if rroom 6 ((upC cs 0 (upR (cs 0) 5 (if rroom 6 (cs 0 8 5) then (cs 0 8 5) + 1 else (cs 0 8 5)) (if rroom 6 (cs 0 8 5) then upd (cs 0 5) ((cs 0 8 5)).toNatClampNeg 0 else (cs 0 5)))) 0 8 6) then ((upC cs 0 (upR (cs 0) 5 (if rroom 6 (cs 0 8 5) then (cs 0 8 5) + 1 else (cs 0 8 5)) (if rroom 6 (cs 0 8 5) then upd (cs 0 5) ((cs 0 8 5)).toNatClampNeg 0 else (cs 0 5)))) 0 8 6) + 1 else ((upC cs 0 (upR (cs 0) 5 (if rroom 6 (cs 0 8 5) then (cs 0 8 5) + 1 else (cs 0 8 5)) (if rroom 6 (cs 0 8 5) then upd (cs 0 5) ((cs 0 8 5)).toNatClampNeg 0 else (cs 0 5)))) 0 8 6)) (if rroom 6 ((upC cs 0 (upR (cs 0) 5 (if rroom 6 (cs 0 8 5) then (cs 0 8 5) + 1 else (cs 0 8 5)) (if rroom 6 (cs 0 8 5) then upd (cs 0 5) ((cs 0 8 5)).toNatClampNeg 0 else (cs 0 5)))) 0 8 6) then upd ((upC cs 0 (upR (cs 0) 5 (if rroom 6 (cs 0 8 5) then (cs 0 8 5) + 1 else (cs 0 8 5)) (if rroom 6 (cs 0 8 5) then upd (cs 0 5) ((cs 0 8 5)).toNatClampNeg 0 else (cs 0 5)))) 0 6) (((upC cs 0 (upR (cs 0) 5 (if rroom 6 (cs 0 8 5) then (cs 0 8 5) + 1 else (cs 0 8 5)) (if rroom 6 (cs 0 8 5) then upd (cs 0 5) ((cs 0 8 5)).toNatClampNeg 0 else (cs 0 5)))) 0 8 6)).toNatClampNeg 0 else ((upC cs 0 (upR (cs 0) 5 (if rroom 6 (cs 0 8 5) then (cs 0 8 5) + 1 else (cs 0 8 5)) (if rroom 6 (cs 0 8 5) then upd (cs 0 5) ((cs 0 8 5)).toNatClampNeg 0 else (cs 0 5)))) 0 6)))) 0 7) 0 ((hW.flat (k := 0) (a := x + 1) (by decide) rfl).row (k := 7) (r := x + 16) (by decide) rfl rfl) (by decide)) ((hW.flat (k := 0) (a := x + 1) (by decide) rfl).row (k := 7) (r := x + 16) (by decide) rfl rfl).1 hM hS hl.1 rfl rfl ⟨Nat.le_of_ble_eq_true rfl, Nat.le_of_ble_eq_true rfl⟩ ⟨Nat.le_of_ble_eq_true rfl, Nat.le_of_ble_eq_true rfl⟩ (Nat.le_of_ble_eq_true rfl) (fun H locs hM hS => ?_)
      have hM := hR.eq hM (putF_row (hW.flat (k := 0) (a := x + 1) (by decide) rfl) (k := 7) (by decide) rfl rfl)
      have hM := hR.eq hM (putC_flat hW (k := 0) (by decide) rfl)
      have hM := hR.eq hM putC_putC
      have hW := ClsAt.put (g := g) (M := M) (x := x) (cs := (upC (upC (upC cs 0 (upR (cs 0) 5 (if rroom 6 (cs 0 8 5) then (cs 0 8 5) + 1 else (cs 0 8 5)) (if rroom 6 (cs 0 8 5) then upd (cs 0 5) ((cs 0 8 5)).toNatClampNeg 0 else (cs 0 5)))) 0 (upR ((upC cs 0 (upR (cs 0) 5 (if rroom 6 (cs 0 8 5) then (cs 0 8 5) + 1 else (cs 0 8 5)) (if rroom 6 (cs 0 8 5) then upd (cs 0 5) ((cs 0 8 5)).toNatClampNeg 0 else (cs 0 5)))) 0) 6 (if rroom 6 ((upC cs 0 (upR (cs 0) 5 (if rroom 6 (cs 0 8 5) then (cs 0 8 5) + 1 else (cs 0 8 5)) (if rroom 6 (cs 0 8 5) then upd (cs 0 5) ((cs 0 8 5)).toNatClampNeg 0 else (cs 0 5)))) 0 8 6) then ((upC cs 0 (upR (cs 0) 5 (if rroom 6 (cs 0 8 5) then (cs 0 8 5) + 1 else (cs 0 8 5)) (if rroom 6 (cs 0 8 5) then upd (cs 0 5) ((cs 0 8 5)).toNatClampNeg 0 else (cs 0 5)))) 0 8 6) + 1 else ((upC cs 0 (upR (cs 0) 5 (if rroom 6 (cs 0 8 5) then (cs 0 8 5) + 1 else (cs 0 8 5)) (if rroom 6 (cs 0 8 5) then upd (cs 0 5) ((cs 0 8 5)).toNatClampNeg 0 else (cs 0 5)))) 0 8 6)) (if rroom 6 ((upC cs 0 (upR (cs 0) 5 (if rroom 6 (cs 0 8 5) then (cs 0 8 5) + 1 else (cs 0 8 5)) (if rroom 6 (cs 0 8 5) then upd (cs 0 5) ((cs 0 8 5)).toNatClampNeg 0 else (cs 0 5)))) 0 8 6) then upd ((upC cs 0 (upR (cs 0) 5 (if rroom 6 (cs 0 8 5) then (cs 0 8 5) + 1 else (cs 0 8 5)) (if rroom 6 (cs 0 8 5) then upd (cs 0 5) ((cs 0 8 5)).toNatClampNeg 0 else (cs 0 5)))) 0 6) (((upC cs 0 (upR (cs 0) 5 (if rroom 6 (cs 0 8 5) then (cs 0 8 5) + 1 else (cs 0 8 5)) (if rroom 6 (cs 0 8 5) then upd (cs 0 5) ((cs 0 8 5)).toNatClampNeg 0 else (cs 0 5)))) 0 8 6)).toNatClampNeg 0 else ((upC cs 0 (upR (cs 0) 5 (if rroom 6 (cs 0 8 5) then (cs 0 8 5) + 1 else (cs 0 8 5)) (if rroom 6 (cs 0 8 5) then upd (cs 0 5) ((cs 0 8 5)).toNatClampNeg 0 else (cs 0 5)))) 0 6)))) 0 (upR ((upC (upC cs 0 (upR (cs 0) 5 (if rroom 6 (cs 0 8 5) then (cs 0 8 5) + 1 else (cs 0 8 5)) (if rroom 6 (cs 0 8 5) then upd (cs 0 5) ((cs 0 8 5)).toNatClampNeg 0 else (cs 0 5)))) 0 (upR ((upC cs 0 (upR (cs 0) 5 (if rroom 6 (cs 0 8 5) then (cs 0 8 5) + 1 else (cs 0 8 5)) (if rroom 6 (cs 0 8 5) then upd (cs 0 5) ((cs 0 8 5)).toNatClampNeg 0 else (cs 0 5)))) 0) 6 (if rroom 6 ((upC cs 0 (upR (cs 0) 5 (if rroom 6 (cs 0 8 5) then (cs 0 8 5) + 1 else (cs 0 8 5)) (if rroom 6 (cs 0 8 5) then upd (cs 0 5) ((cs 0 8 5)).toNatClampNeg 0 else (cs 0 5)))) 0 8 6) then ((upC cs 0 (upR (cs 0) 5 (if rroom 6 (cs 0 8 5) then (cs 0 8 5) + 1 else (cs 0 8 5)) (if rroom 6 (cs 0 8 5) then upd (cs 0 5) ((cs 0 8 5)).toNatClampNeg 0 else (cs 0 5)))) 0 8 6) + 1 else ((upC cs 0 (upR (cs 0) 5 (if rroom 6 (cs 0 8 5) then (cs 0 8 5) + 1 else (cs 0 8 5)) (if rroom 6 (cs 0 8 5) then upd (cs 0 5) ((cs 0 8 5)).toNatClampNeg 0 else (cs 0 5)))) 0 8 6)) (if rroom 6 ((upC cs 0 (upR (cs 0) 5 (if rroom 6 (cs 0 8 5) then (cs 0 8 5) + 1 else (cs 0 8 5)) (if rroom 6 (cs 0 8 5) then upd (cs 0 5) ((cs 0 8 5)).toNatClampNeg 0 else (cs 0 5)))) 0 8 6) then upd ((upC cs 0 (upR (cs 0) 5 (if rroom 6 (cs 0 8 5) then (cs 0 8 5) + 1 else (cs 0 8 5)) (if rroom 6 (cs 0 8 5) then upd (cs 0 5) ((cs 0 8 5)).toNatClampNeg 0 else (cs 0 5)))) 0 6) (((upC cs 0 (upR (cs 0) 5 (if rroom 6 (cs 0 8 5) then (cs 0 8 5) + 1 else (cs 0 8 5)) (if rroom 6 (cs 0 8 5) then upd (cs 0 5) ((cs 0 8 5)).toNatClampNeg 0 else (cs 0 5)))) 0 8 6)).toNatClampNeg 0 else ((upC cs 0 (upR (cs 0) 5 (if rroom 6 (cs 0 8 5) then (cs 0 8 5) + 1 else (cs 0 8 5)) (if rroom 6 (cs 0 8 5) then upd (cs 0 5) ((cs 0 8 5)).toNatClampNeg 0 else (cs 0 5)))) 0 6)))) 0) 7 (if rroom 6 ((upC (upC cs 0 (upR (cs 0) 5 (if rroom 6 (cs 0 8 5) then (cs 0 8 5) + 1 else (cs 0 8 5)) (if rroom 6 (cs 0 8 5) then upd (cs 0 5) ((cs 0 8 5)).toNatClampNeg 0 else (cs 0 5)))) 0 (upR ((upC cs 0 (upR (cs 0) 5 (if rroom 6 (cs 0 8 5) then (cs 0 8 5) + 1 else (cs 0 8 5)) (if rroom 6 (cs 0 8 5) then upd (cs 0 5) ((cs 0 8 5)).toNatClampNeg 0 else (cs 0 5)))) 0) 6 (if rroom 6 ((upC cs 0 (upR (cs 0) 5 (if rroom 6 (cs 0 8 5) then (cs 0 8 5) + 1 else (cs 0 8 5)) (if rroom 6 (cs 0 8 5) then upd (cs 0 5) ((cs 0 8 5)).toNatClampNeg 0 else (cs 0 5)))) 0 8 6) then ((upC cs 0 (upR (cs 0) 5 (if rroom 6 (cs 0 8 5) then (cs 0 8 5) + 1 else (cs 0 8 5)) (if rroom 6 (cs 0 8 5) then upd (cs 0 5) ((cs 0 8 5)).toNatClampNeg 0 else (cs 0 5)))) 0 8 6) + 1 else ((upC cs 0 (upR (cs 0) 5 (if rroom 6 (cs 0 8 5) then (cs 0 8 5) + 1 else (cs 0 8 5)) (if rroom 6 (cs 0 8 5) then upd (cs 0 5) ((cs 0 8 5)).toNatClampNeg 0 else (cs 0 5)))) 0 8 6)) (if rroom 6 ((upC cs 0 (upR (cs 0) 5 (if rroom 6 (cs 0 8 5) then (cs 0 8 5) + 1 else (cs 0 8 5)) (if rroom 6 (cs 0 8 5) then upd (cs 0 5) ((cs 0 8 5)).toNatClampNeg 0 else (cs 0 5)))) 0 8 6) then upd ((upC cs 0 (upR (cs 0) 5 (if rroom 6 (cs 0 8 5) then (cs 0 8 5) + 1 else (cs 0 8 5)) (if rroom 6 (cs 0 8 5) then upd (cs 0 5) ((cs 0 8 5)).toNatClampNeg 0 else (cs 0 5)))) 0 6) (((upC cs 0 (upR (cs 0) 5 (if rroom 6 (cs 0 8 5) then (cs 0 8 5) + 1 else (cs 0 8 5)) (if rroom 6 (cs 0 8 5) then upd (cs 0 5) ((cs 0 8 5)).toNatClampNeg 0 else (cs 0 5)))) 0 8 6)).toNatClampNeg 0 else ((upC cs 0 (upR (cs 0) 5 (if rroom 6 (cs 0 8 5) then (cs 0 8 5) + 1 else (cs 0 8 5)) (if rroom 6 (cs 0 8 5) then upd (cs 0 5) ((cs 0 8 5)).toNatClampNeg 0 else (cs 0 5)))) 0 6)))) 0 8 7) then ((upC (upC cs 0 (upR (cs 0) 5 (if rroom 6 (cs 0 8 5) then (cs 0 8 5) + 1 else (cs 0 8 5)) (if rroom 6 (cs 0 8 5) then upd (cs 0 5) ((cs 0 8 5)).toNatClampNeg 0 else (cs 0 5)))) 0 (upR ((upC cs 0 (upR (cs 0) 5 (if rroom 6 (cs 0 8 5) then (cs 0 8 5) + 1 else (cs 0 8 5)) (if rroom 6 (cs 0 8 5) then upd (cs 0 5) ((cs 0 8 5)).toNatClampNeg 0 else (cs 0 5)))) 0) 6 (if rroom 6 ((upC cs 0 (upR (cs 0) 5 (if rroom 6 (cs 0 8 5) then (cs 0 8 5) + 1 else (cs 0 8 5)) (if rroom 6 (cs 0 8 5) then upd (cs 0 5) ((cs 0 8 5)).toNatClampNeg 0 else (cs 0 5)))) 0 8 6) then ((upC cs 0 (upR (cs 0) 5 (if rroom 6 (cs 0 8 5) then (cs 0 8 5) + 1 else (cs 0 8 5)) (if rroom 6 (cs 0 8 5) then upd (cs 0 5) ((cs 0 8 5)).toNatClampNeg 0 else (cs 0 5)))) 0 8 6) + 1 else ((upC cs 0 (upR (cs 0) 5 (if rroom 6 (cs 0 8 5) then (cs 0 8 5) + 1 else (cs 0 8 5)) (if rroom 6 (cs 0 8 5) then upd (cs 0 5) ((cs 0 8 5)).toNatClampNeg 0 else (cs 0 5)))) 0 8 6)) (if rroom 6 ((upC cs 0 (upR (cs 0) 5 (if rroom 6 (cs 0 8 5) then (cs 0 8 5) + 1 else (cs 0 8 5)) (if rroom 6 (cs 0 8 5) then upd (cs 0 5) ((cs 0 8 5)).toNatClampNeg 0 else (cs 0 5)))) 0 8 6) then upd ((upC cs 0 (upR (cs 0) 5 (if rroom 6 (cs 0 8 5) then (cs 0 8 5) + 1 else (cs 0 8 5)) (if rroom 6 (cs 0 8 5) then upd (cs 0 5) ((cs 0 8 5)).toNatClampNeg 0 else (cs 0 5)))) 0 6) (((upC cs 0 (upR (cs 0) 5 (if rroom 6 (cs 0 8 5) then (cs 0 8 5) + 1 else (cs 0 8 5)) (if rroom 6 (cs 0 8 5) then upd (cs 0 5) ((cs 0 8 5)).toNatClampNeg 0 else (cs 0 5)))) 0 8 6)).toNatClampNeg 0 else ((upC cs 0 (upR (cs 0) 5 (if rroom 6 (cs 0 8 5) then (cs 0 8 5) + 1 else (cs 0 8 5)) (if rroom 6 (cs 0 8 5) then upd (cs 0 5) ((cs 0 8 5)).toNatClampNeg 0 else (cs 0 5)))) 0 6)))) 0 8 7) + 1 else ((upC (upC cs 0 (upR (cs 0) 5 (if rroom 6 (cs 0 8 5) then (cs 0 8 5) + 1 else (cs 0 8 5)) (if rroom 6 (cs 0 8 5) then upd (cs 0 5) ((cs 0 8 5)).toNatClampNeg 0 else (cs 0 5)))) 0 (upR ((upC cs 0 (upR (cs 0) 5 (if rroom 6 (cs 0 8 5) then (cs 0 8 5) + 1 else (cs 0 8 5)) (if rroom 6 (cs 0 8 5) then upd (cs 0 5) ((cs 0 8 5)).toNatClampNeg 0 else (cs 0 5)))) 0) 6 (if rroom 6 ((upC cs 0 (upR (cs 0) 5 (if rroom 6 (cs 0 8 5) then (cs 0 8 5) + 1 else (cs 0 8 5)) (if rroom 6 (cs 0 8 5) then upd (cs 0 5) ((cs 0 8 5)).toNatClampNeg 0 else (cs 0 5)))) 0 8 6) then ((upC cs 0 (upR (cs 0) 5 (if rroom 6 (cs 0 8 5) then (cs 0 8 5) + 1 else (cs 0 8 5)) (if rroom 6 (cs 0 8 5) then upd (cs 0 5) ((cs 0 8 5)).toNatClampNeg 0 else (cs 0 5)))) 0 8 6) + 1 else ((upC cs 0 (upR (cs 0) 5 (if rroom 6 (cs 0 8 5) then (cs 0 8 5) + 1 else (cs 0 8 5)) (if rroom 6 (cs 0 8 5) then upd (cs 0 5) ((cs 0 8 5)).toNatClampNeg 0 else (cs 0 5)))) 0 8 6)) (if rroom 6 ((upC cs 0 (upR (cs 0) 5 (if rroom 6 (cs 0 8 5) then (cs 0 8 5) + 1 else (cs 0 8 5)) (if rroom 6 (cs 0 8 5) then upd (cs 0 5) ((cs 0 8 5)).toNatClampNeg 0 else (cs 0 5)))) 0 8 6) then upd ((upC cs 0 (upR (cs 0) 5 (if rroom 6 (cs 0 8 5) then (cs 0 8 5) + 1 else (cs 0 8 5)) (if rroom 6 (cs 0 8 5) then upd (cs 0 5) ((cs 0 8 5)).toNatClampNeg 0 else (cs 0 5)))) 0 6) (((upC cs 0 (upR (cs 0) 5 (if rroom 6 (cs 0 8 5) then (cs 0 8 5) + 1 else (cs 0 8 5)) (if rroom 6 (cs 0 8 5) then upd (cs 0 5) ((cs 0 8 5)).toNatClampNeg 0 else (cs 0 5)))) 0 8 6)).toNatClampNeg 0 else ((upC cs 0 (upR (cs 0) 5 (if rroom 6 (cs 0 8 5) then (cs 0 8 5) + 1 else (cs 0 8 5)) (if rroom 6 (cs 0 8 5) then upd (cs 0 5) ((cs 0 8 5)).toNatClampNeg 0 else (cs 0 5)))) 0 6)))) 0 8 7)) (if rroom 6 ((upC (upC cs 0 (upR (cs 0) 5 (if rroom 6 (cs 0 8 5) then (cs 0 8 5) + 1 else (cs 0 8 5)) (if rroom 6 (cs 0 8 5) then upd (cs 0 5) ((cs 0 8 5)).toNatClampNeg 0 else (cs 0 5)))) 0 (upR ((upC cs 0 (upR (cs 0) 5 (if rroom 6 (cs 0 8 5) then (cs 0 8 5) + 1 else (cs 0 8 5)) (if rroom 6 (cs 0 8 5) then upd (cs 0 5) ((cs 0 8 5)).toNatClampNeg 0 else (cs 0 5)))) 0) 6 (if rroom 6 ((upC cs 0 (upR (cs 0) 5 (if rroom 6 (cs 0 8 5) then (cs 0 8 5) + 1 else (cs 0 8 5)) (if rroom 6 (cs 0 8 5) then upd (cs 0 5) ((cs 0 8 5)).toNatClampNeg 0 else (cs 0 5)))) 0 8 6) then ((upC cs 0 (upR (cs 0) 5 (if rroom 6 (cs 0 8 5) then (cs 0 8 5) + 1 else (cs 0 8 5)) (if rroom 6 (cs 0 8 5) then upd (cs 0 5) ((cs 0 8 5)).toNatClampNeg 0 else (cs 0 5)))) 0 8 6) + 1 else ((upC cs 0 (upR (cs 0) 5 (if rroom 6 (cs 0 8 5) then (cs 0 8 5) + 1 else (cs 0 8 5)) (if rroom 6 (cs 0 8 5) then upd (cs 0 5) ((cs 0 8 5)).toNatClampNeg 0 else (cs 0 5)))) 0 8 6)) (if rroom 6 ((upC cs 0 (upR (cs 0) 5 (if rroom 6 (cs 0 8 5) then (cs 0 8 5) + 1 else (cs 0 8 5)) (if rroom 6 (cs 0 8 5) then upd (cs 0 5) ((cs 0 8 5)).toNatClampNeg 0 else (cs 0 5)))) 0 8 6) then upd ((upC cs 0 (upR (cs 0) 5 (if rroom 6 (cs 0 8 5) then (cs 0 8 5) + 1 else (cs 0 8 5)) (if rroom 6 (cs 0 8 5) then upd (cs 0 5) ((cs 0 8 5)).toNatClampNeg 0 else (cs 0 5)))) 0 6) (((upC cs 0 (upR (cs 0) 5 (if rroom 6 (cs 0 8 5) then (cs 0 8 5) + 1 else (cs 0 8 5)) (if rroom 6 (cs 0 8 5) then upd (cs 0 5) ((cs 0 8 5)).toNatClampNeg 0 else (cs 0 5)))) 0 8 6)).toNatClampNeg 0 else ((upC cs 0 (upR (cs 0) 5 (if rroom 6 (cs 0 8 5) then (cs 0 8 5) + 1 else (cs 0 8 5)) (if rroom 6 (cs 0 8 5) then upd (cs 0 5) ((cs 0 8 5)).toNatClampNeg 0 else (cs 0 5)))) 0 6)))) 0 8 7) then upd ((upC (upC cs 0 (upR (cs 0) 5 (if rroom 6 (cs 0 8 5) then (cs 0 8 5) + 1 else (cs 0 8 5)) (if rroom 6 (cs 0 8 5) then upd (cs 0 5) ((cs 0 8 5)).toNatClampNeg 0 else (cs 0 5)))) 0 (upR ((upC cs 0 (upR (cs 0) 5 (if rroom 6 (cs 0 8 5) then (cs 0 8 5) + 1 else (cs 0 8 5)) (if rroom 6 (cs 0 8 5) then upd (cs 0 5) ((cs 0 8 5)).toNatClampNeg 0 else (cs 0 5)))) 0) 6 (if rroom 6 ((upC cs 0 (upR (cs 0) 5 (if rroom 6 (cs 0 8 5) then (cs 0 8 5) + 1 else (cs 0 8 5)) (if rroom 6 (cs 0 8 5) then upd (cs 0 5) ((cs 0 8 5)).toNatClampNeg 0 else (cs 0 5)))) 0 8 6) then ((upC cs 0 (upR (cs 0) 5 (if rroom 6 (cs 0 8 5) then (cs 0 8 5) + 1 else (cs 0 8 5)) (if rroom 6 (cs 0 8 5) then upd (cs 0 5) ((cs 0 8 5)).toNatClampNeg 0 else (cs 0 5)))) 0 8 6) + 1 else ((upC cs 0 (upR (cs 0) 5 (if rroom 6 (cs 0 8 5) then (cs 0 8 5) + 1 else (cs 0 8 5)) (if rroom 6 (cs 0 8 5) then upd (cs 0 5) ((cs 0 8 5)).toNatClampNeg 0 else (cs 0 5)))) 0 8 6)) (if rroom 6 ((upC cs 0 (upR (cs 0) 5 (if rroom 6 (cs 0 8 5) then (cs 0 8 5) + 1 else (cs 0 8 5)) (if rroom 6 (cs 0 8 5) then upd (cs 0 5) ((cs 0 8 5)).toNatClampNeg 0 else (cs 0 5)))) 0 8 6) then upd ((upC cs 0 (upR (cs 0) 5 (if rroom 6 (cs 0 8 5) then (cs 0 8 5) + 1 else (cs 0 8 5)) (if rroom 6 (cs 0 8 5) then upd (cs 0 5) ((cs 0 8 5)).toNatClampNeg 0 else (cs 0 5)))) 0 6) (((upC cs 0 (upR (cs 0) 5 (if rroom 6 (cs 0 8 5) then (cs 0 8 5) + 1 else (cs 0 8 5)) (if rroom 6 (cs 0 8 5) then upd (cs 0 5) ((cs 0 8 5)).toNatClampNeg 0 else (cs 0 5)))) 0 8 6)).toNatClampNeg 0 else ((upC cs 0 (upR (cs 0) 5 (if rroom 6 (cs 0 8 5) then (cs 0 8 5) + 1 else (cs 0 8 5)) (if rroom 6 (cs 0 8 5) then upd (cs 0 5) ((cs 0 8 5)).toNatClampNeg 0 else (cs 0 5)))) 0 6)))) 0 7) (((upC (upC cs 0 (upR (cs 0) 5 (if rroom 6 (cs 0 8 5) then (cs 0 8 5) + 1 else (cs 0 8 5)) (if rroom 6 (cs 0 8 5) then upd (cs 0 5) ((cs 0 8 5)).toNatClampNeg 0 else (cs 0 5)))) 0 (upR ((upC cs 0 (upR (cs 0) 5 (if rroom 6 (cs 0 8 5) then (cs 0 8 5) + 1 else (cs 0 8 5)) (if rroom 6 (cs 0 8 5) then upd (cs 0 5) ((cs 0 8 5)).toNatClampNeg 0 else (cs 0 5)))) 0) 6 (if rroom 6 ((upC cs 0 (upR (cs 0) 5 (if rroom 6 (cs 0 8 5) then (cs 0 8 5) + 1 else (cs 0 8 5)) (if rroom 6 (cs 0 8 5) then upd (cs 0 5) ((cs 0 8 5)).toNatClampNeg 0 else (cs 0 5)))) 0 8 6) then ((upC cs 0 (upR (cs 0) 5 (if rroom 6 (cs 0 8 5) then (cs 0 8 5) + 1 else (cs 0 8 5)) (if rroom 6 (cs 0 8 5) then upd (cs 0 5) ((cs 0 8 5)).toNatClampNeg 0 else (cs 0 5)))) 0 8 6) + 1 else ((upC cs 0 (upR (cs 0) 5 (if rroom 6 (cs 0 8 5) then (cs 0 8 5) + 1 else (cs 0 8 5)) (if rroom 6 (cs 0 8 5) then upd (cs 0 5) ((cs 0 8 5)).toNatClampNeg 0 else (cs 0 5)))) 0 8 6)) (if rroom 6 ((upC cs 0 (upR (cs 0) 5 (if rroom 6 (cs 0 8 5) then (cs 0 8 5) + 1 else (cs 0 8 5)) (if rroom 6 (cs 0 8 5) then upd (cs 0 5) ((cs 0 8 5)).toNatClampNeg 0 else (cs 0 5)))) 0 8 6) then upd ((upC cs 0 (upR (cs 0) 5 (if rroom 6 (cs 0 8 5) then (cs 0 8 5) + 1 else (cs 0 8 5)) (if rroom 6 (cs 0 8 5) then upd (cs 0 5) ((cs 0 8 5)).toNatClampNeg 0 else (cs 0 5)))) 0 6) (((upC cs 0 (upR (cs 0) 5 (if rroom 6 (cs 0 8 5) then (cs 0 8 5) + 1 else (cs 0 8 5)) (if rroom 6 (cs 0 8 5) then upd (cs 0 5) ((cs 0 8 5)).toNatClampNeg 0 else (cs 0 5)))) 0 8 6)).toNatClampNeg 0 else ((upC cs 0 (upR (cs 0) 5 (if rroom 6 (cs 0 8 5) then (cs 0 8 5) + 1 else (cs 0 8 5)) (if rroom 6 (cs 0 8 5) then upd (cs 0 5) ((cs 0 8 5)).toNatClampNeg 0 else (cs 0 5)))) 0 6)))) 0 8 7)).toNatClampNeg 0 else ((upC (upC cs 0 (upR (cs 0) 5 (if rroom 6 (cs 0 8 5) then (cs 0 8 5) + 1 else (cs 0 8 5)) (if rroom 6 (cs 0 8 5) then upd (cs 0 5) ((cs 0 8 5)).toNatClampNeg 0 else (cs 0 5)))) 0 (upR ((upC cs 0 (upR (cs 0) 5 (if rroom 6 (cs 0 8 5) then (cs 0 8 5) + 1 else (cs 0 8 5)) (if rroom 6 (cs 0 8 5) then upd (cs 0 5) ((cs 0 8 5)).toNatClampNeg 0 else (cs 0 5)))) 0) 6 (if rroom 6 ((upC cs 0 (upR (cs 0) 5 (if rroom 6 (cs 0 8 5) then (cs 0 8 5) + 1 else (cs 0 8 5)) (if rroom 6 (cs 0 8 5) then upd (cs 0 5) ((cs 0 8 5)).toNatClampNeg 0 else (cs 0 5)))) 0 8 6) then ((upC cs 0 (upR (cs 0) 5 (if rroom 6 (cs 0 8 5) then (cs 0 8 5) + 1 else (cs 0 8 5)) (if rroom 6 (cs 0 8 5) then upd (cs 0 5) ((cs 0 8 5)).toNatClampNeg 0 else (cs 0 5)))) 0 8 6) + 1 else ((upC cs 0 (upR (cs 0) 5 (if rroom 6 (cs 0 8 5) then (cs 0 8 5) + 1 else (cs 0 8 5)) (if rroom 6 (cs 0 8 5) then upd (cs 0 5) ((cs 0 8 5)).toNatClampNeg 0 else (cs 0 5)))) 0 8 6)) (if rroom 6 ((upC cs 0 (upR (cs 0) 5 (if rroom 6 (cs 0 8 5) then (cs 0 8 5) + 1 else (cs 0 8 5)) (if rroom 6 (cs 0 8 5) then upd (cs 0 5) ((cs 0 8 5)).toNatClampNeg 0 else (cs 0 5)))) 0 8 6) then upd ((upC cs 0 (upR (cs 0) 5 (if rroom 6 (cs 0 8 5) then (cs 0 8 5) + 1 else (cs 0 8 5)) (if rroom 6 (cs 0 8 5) then upd (cs 0 5) ((cs 0 8 5)).toNatClampNeg 0 else (cs 0 5)))) 0 6) (((upC cs 0 (upR (cs 0) 5 (if rroom 6 (cs 0 8 5) then (cs 0 8 5) + 1 else (cs 0 8 5)) (if rroom 6 (cs 0 8 5) then upd (cs 0 5) ((cs 0 8 5)).toNatClampNeg 0 else (cs 0 5)))) 0 8 6)).toNatClampNeg 0 else ((upC cs 0 (upR (cs 0) 5 (if rroom 6 (cs 0 8 5) then (cs 0 8 5) + 1 else (cs 0 8 5)) (if rroom 6 (cs 0 8 5) then upd (cs 0 5) ((cs 0 8 5)).toNatClampNeg 0 else (cs 0 5)))) 0 6)))) 0 7)))))
      refine lv_pop hx hb dX5_bringCamel_70 rfl ?_
      refine lv_aload_n hx hb dX5_bringCamel_71 rfl (lv_at hl 0 rfl) ?_
      refine gt_X5_10 hc dX5_bringCamel_72 hM hW.o rfl ?_
      refine gt_X5_137 hc dX5_bringCamel_75 hM (hW.flat (k := 0) (a := x + 1) (by decide) rfl).o rfl ?_
      refine lv_iload_n hx hb dX5_bringCamel_78 rfl (lv_at hl 1 rfl) ?_
      refine k_V1 hc [.int i] cw_X5_359 rfl dX5_bringCamel_79 (c_X3_add l hlf g _ (x + 10) 6 ((upC (upC (upC cs 0 (upR (cs 0) 5 (if rroom 6 (cs 0 8 5) then (cs 0 8 5) + 1 else (cs 0 8 5)) (if rroom 6 (cs 0 8 5) then upd (cs 0 5) ((cs 0 8 5)).toNatClampNeg 0 else (cs 0 5)))) 0 (upR ((upC cs 0 (upR (cs 0) 5 (if rroom 6 (cs 0 8 5) then (cs 0 8 5) + 1 else (cs 0 8 5)) (if rroom 6 (cs 0 8 5) then upd (cs 0 5) ((cs 0 8 5)).toNatClampNeg 0 else (cs 0 5)))) 0) 6 (if rroom 6 ((upC cs 0 (upR (cs 0) 5 (if rroom 6 (cs 0 8 5) then (cs 0 8 5) + 1 else (cs 0 8 5)) (if rroom 6 (cs 0 8 5) then upd (cs 0 5) ((cs 0 8 5)).toNatClampNeg 0 else (cs 0 5)))) 0 8 6) then ((upC cs 0 (upR (cs 0) 5 (if rroom 6 (cs 0 8 5) then (cs 0 8 5) + 1 else (cs 0 8 5)) (if rroom 6 (cs 0 8 5) then upd (cs 0 5) ((cs 0 8 5)).toNatClampNeg 0 else (cs 0 5)))) 0 8 6) + 1 else ((upC cs 0 (upR (cs 0) 5 (if rroom 6 (cs 0 8 5) then (cs 0 8 5) + 1 else (cs 0 8 5)) (if rroom 6 (cs 0 8 5) then upd (cs 0 5) ((cs 0 8 5)).toNatClampNeg 0 else (cs 0 5)))) 0 8 6)) (if rroom 6 ((upC cs 0 (upR (cs 0) 5 (if rroom 6 (cs 0 8 5) then (cs 0 8 5) + 1 else (cs 0 8 5)) (if rroom 6 (cs 0 8 5) then upd (cs 0 5) ((cs 0 8 5)).toNatClampNeg 0 else (cs 0 5)))) 0 8 6) then upd ((upC cs 0 (upR (cs 0) 5 (if rroom 6 (cs 0 8 5) then (cs 0 8 5) + 1 else (cs 0 8 5)) (if rroom 6 (cs 0 8 5) then upd (cs 0 5) ((cs 0 8 5)).toNatClampNeg 0 else (cs 0 5)))) 0 6) (((upC cs 0 (upR (cs 0) 5 (if rroom 6 (cs 0 8 5) then (cs 0 8 5) + 1 else (cs 0 8 5)) (if rroom 6 (cs 0 8 5) then upd (cs 0 5) ((cs 0 8 5)).toNatClampNeg 0 else (cs 0 5)))) 0 8 6)).toNatClampNeg 0 else ((upC cs 0 (upR (cs 0) 5 (if rroom 6 (cs 0 8 5) then (cs 0 8 5) + 1 else (cs 0 8 5)) (if rroom 6 (cs 0 8 5) then upd (cs 0 5) ((cs 0 8 5)).toNatClampNeg 0 else (cs 0 5)))) 0 6)))) 0 (upR ((upC (upC cs 0 (upR (cs 0) 5 (if rroom 6 (cs 0 8 5) then (cs 0 8 5) + 1 else (cs 0 8 5)) (if rroom 6 (cs 0 8 5) then upd (cs 0 5) ((cs 0 8 5)).toNatClampNeg 0 else (cs 0 5)))) 0 (upR ((upC cs 0 (upR (cs 0) 5 (if rroom 6 (cs 0 8 5) then (cs 0 8 5) + 1 else (cs 0 8 5)) (if rroom 6 (cs 0 8 5) then upd (cs 0 5) ((cs 0 8 5)).toNatClampNeg 0 else (cs 0 5)))) 0) 6 (if rroom 6 ((upC cs 0 (upR (cs 0) 5 (if rroom 6 (cs 0 8 5) then (cs 0 8 5) + 1 else (cs 0 8 5)) (if rroom 6 (cs 0 8 5) then upd (cs 0 5) ((cs 0 8 5)).toNatClampNeg 0 else (cs 0 5)))) 0 8 6) then ((upC cs 0 (upR (cs 0) 5 (if rroom 6 (cs 0 8 5) then (cs 0 8 5) + 1 else (cs 0 8 5)) (if rroom 6 (cs 0 8 5) then upd (cs 0 5) ((cs 0 8 5)).toNatClampNeg 0 else (cs 0 5)))) 0 8 6) + 1 else ((upC cs 0 (upR (cs 0) 5 (if rroom 6 (cs 0 8 5) then (cs 0 8 5) + 1 else (cs 0 8 5)) (if rroom 6 (cs 0 8 5) then upd (cs 0 5) ((cs 0 8 5)).toNatClampNeg 0 else (cs 0 5)))) 0 8 6)) (if rroom 6 ((upC cs 0 (upR (cs 0) 5 (if rroom 6 (cs 0 8 5) then (cs 0 8 5) + 1 else (cs 0 8 5)) (if rroom 6 (cs 0 8 5) then upd (cs 0 5) ((cs 0 8 5)).toNatClampNeg 0 else (cs 0 5)))) 0 8 6) then upd ((upC cs 0 (upR (cs 0) 5 (if rroom 6 (cs 0 8 5) then (cs 0 8 5) + 1 else (cs 0 8 5)) (if rroom 6 (cs 0 8 5) then upd (cs 0 5) ((cs 0 8 5)).toNatClampNeg 0 else (cs 0 5)))) 0 6) (((upC cs 0 (upR (cs 0) 5 (if rroom 6 (cs 0 8 5) then (cs 0 8 5) + 1 else (cs 0 8 5)) (if rroom 6 (cs 0 8 5) then upd (cs 0 5) ((cs 0 8 5)).toNatClampNeg 0 else (cs 0 5)))) 0 8 6)).toNatClampNeg 0 else ((upC cs 0 (upR (cs 0) 5 (if rroom 6 (cs 0 8 5) then (cs 0 8 5) + 1 else (cs 0 8 5)) (if rroom 6 (cs 0 8 5) then upd (cs 0 5) ((cs 0 8 5)).toNatClampNeg 0 else (cs 0 5)))) 0 6)))) 0) 7 (if rroom 6 ((upC (upC cs 0 (upR (cs 0) 5 (if rroom 6 (cs 0 8 5) then (cs 0 8 5) + 1 else (cs 0 8 5)) (if rroom 6 (cs 0 8 5) then upd (cs 0 5) ((cs 0 8 5)).toNatClampNeg 0 else (cs 0 5)))) 0 (upR ((upC cs 0 (upR (cs 0) 5 (if rroom 6 (cs 0 8 5) then (cs 0 8 5) + 1 else (cs 0 8 5)) (if rroom 6 (cs 0 8 5) then upd (cs 0 5) ((cs 0 8 5)).toNatClampNeg 0 else (cs 0 5)))) 0) 6 (if rroom 6 ((upC cs 0 (upR (cs 0) 5 (if rroom 6 (cs 0 8 5) then (cs 0 8 5) + 1 else (cs 0 8 5)) (if rroom 6 (cs 0 8 5) then upd (cs 0 5) ((cs 0 8 5)).toNatClampNeg 0 else (cs 0 5)))) 0 8 6) then ((upC cs 0 (upR (cs 0) 5 (if rroom 6 (cs 0 8 5) then (cs 0 8 5) + 1 else (cs 0 8 5)) (if rroom 6 (cs 0 8 5) then upd (cs 0 5) ((cs 0 8 5)).toNatClampNeg 0 else (cs 0 5)))) 0 8 6) + 1 else ((upC cs 0 (upR (cs 0) 5 (if rroom 6 (cs 0 8 5) then (cs 0 8 5) + 1 else (cs 0 8 5)) (if rroom 6 (cs 0 8 5) then upd (cs 0 5) ((cs 0 8 5)).toNatClampNeg 0 else (cs 0 5)))) 0 8 6)) (if rroom 6 ((upC cs 0 (upR (cs 0) 5 (if rroom 6 (cs 0 8 5) then (cs 0 8 5) + 1 else (cs 0 8 5)) (if rroom 6 (cs 0 8 5) then upd (cs 0 5) ((cs 0 8 5)).toNatClampNeg 0 else (cs 0 5)))) 0 8 6) then upd ((upC cs 0 (upR (cs 0) 5 (if rroom 6 (cs 0 8 5) then (cs 0 8 5) + 1 else (cs 0 8 5)) (if rroom 6 (cs 0 8 5) then upd (cs 0 5) ((cs 0 8 5)).toNatClampNeg 0 else (cs 0 5)))) 0 6) (((upC cs 0 (upR (cs 0) 5 (if rroom 6 (cs 0 8 5) then (cs 0 8 5) + 1 else (cs 0 8 5)) (if rroom 6 (cs 0 8 5) then upd (cs 0 5) ((cs 0 8 5)).toNatClampNeg 0 else (cs 0 5)))) 0 8 6)).toNatClampNeg 0 else ((upC cs 0 (upR (cs 0) 5 (if rroom 6 (cs 0 8 5) then (cs 0 8 5) + 1 else (cs 0 8 5)) (if rroom 6 (cs 0 8 5) then upd (cs 0 5) ((cs 0 8 5)).toNatClampNeg 0 else (cs 0 5)))) 0 6)))) 0 8 7) then ((upC (upC cs 0 (upR (cs 0) 5 (if rroom 6 (cs 0 8 5) then (cs 0 8 5) + 1 else (cs 0 8 5)) (if rroom 6 (cs 0 8 5) then upd (cs 0 5) ((cs 0 8 5)).toNatClampNeg 0 else (cs 0 5)))) 0 (upR ((upC cs 0 (upR (cs 0) 5 (if rroom 6 (cs 0 8 5) then (cs 0 8 5) + 1 else (cs 0 8 5)) (if rroom 6 (cs 0 8 5) then upd (cs 0 5) ((cs 0 8 5)).toNatClampNeg 0 else (cs 0 5)))) 0) 6 (if rroom 6 ((upC cs 0 (upR (cs 0) 5 (if rroom 6 (cs 0 8 5) then (cs 0 8 5) + 1 else (cs 0 8 5)) (if rroom 6 (cs 0 8 5) then upd (cs 0 5) ((cs 0 8 5)).toNatClampNeg 0 else (cs 0 5)))) 0 8 6) then ((upC cs 0 (upR (cs 0) 5 (if rroom 6 (cs 0 8 5) then (cs 0 8 5) + 1 else (cs 0 8 5)) (if rroom 6 (cs 0 8 5) then upd (cs 0 5) ((cs 0 8 5)).toNatClampNeg 0 else (cs 0 5)))) 0 8 6) + 1 else ((upC cs 0 (upR (cs 0) 5 (if rroom 6 (cs 0 8 5) then (cs 0 8 5) + 1 else (cs 0 8 5)) (if rroom 6 (cs 0 8 5) then upd (cs 0 5) ((cs 0 8 5)).toNatClampNeg 0 else (cs 0 5)))) 0 8 6)) (if rroom 6 ((upC cs 0 (upR (cs 0) 5 (if rroom 6 (cs 0 8 5) then (cs 0 8 5) + 1 else (cs 0 8 5)) (if rroom 6 (cs 0 8 5) then upd (cs 0 5) ((cs 0 8 5)).toNatClampNeg 0 else (cs 0 5)))) 0 8 6) then upd ((upC cs 0 (upR (cs 0) 5 (if rroom 6 (cs 0 8 5) then (cs 0 8 5) + 1 else (cs 0 8 5)) (if rroom 6 (cs 0 8 5) then upd (cs 0 5) ((cs 0 8 5)).toNatClampNeg 0 else (cs 0 5)))) 0 6) (((upC cs 0 (upR (cs 0) 5 (if rroom 6 (cs 0 8 5) then (cs 0 8 5) + 1 else (cs 0 8 5)) (if rroom 6 (cs 0 8 5) then upd (cs 0 5) ((cs 0 8 5)).toNatClampNeg 0 else (cs 0 5)))) 0 8 6)).toNatClampNeg 0 else ((upC cs 0 (upR (cs 0) 5 (if rroom 6 (cs 0 8 5) then (cs 0 8 5) + 1 else (cs 0 8 5)) (if rroom 6 (cs 0 8 5) then upd (cs 0 5) ((cs 0 8 5)).toNatClampNeg 0 else (cs 0 5)))) 0 6)))) 0 8 7) + 1 else ((upC (upC cs 0 (upR (cs 0) 5 (if rroom 6 (cs 0 8 5) then (cs 0 8 5) + 1 else (cs 0 8 5)) (if rroom 6 (cs 0 8 5) then upd (cs 0 5) ((cs 0 8 5)).toNatClampNeg 0 else (cs 0 5)))) 0 (upR ((upC cs 0 (upR (cs 0) 5 (if rroom 6 (cs 0 8 5) then (cs 0 8 5) + 1 else (cs 0 8 5)) (if rroom 6 (cs 0 8 5) then upd (cs 0 5) ((cs 0 8 5)).toNatClampNeg 0 else (cs 0 5)))) 0) 6 (if rroom 6 ((upC cs 0 (upR (cs 0) 5 (if rroom 6 (cs 0 8 5) then (cs 0 8 5) + 1 else (cs 0 8 5)) (if rroom 6 (cs 0 8 5) then upd (cs 0 5) ((cs 0 8 5)).toNatClampNeg 0 else (cs 0 5)))) 0 8 6) then ((upC cs 0 (upR (cs 0) 5 (if rroom 6 (cs 0 8 5) then (cs 0 8 5) + 1 else (cs 0 8 5)) (if rroom 6 (cs 0 8 5) then upd (cs 0 5) ((cs 0 8 5)).toNatClampNeg 0 else (cs 0 5)))) 0 8 6) + 1 else ((upC cs 0 (upR (cs 0) 5 (if rroom 6 (cs 0 8 5) then (cs 0 8 5) + 1 else (cs 0 8 5)) (if rroom 6 (cs 0 8 5) then upd (cs 0 5) ((cs 0 8 5)).toNatClampNeg 0 else (cs 0 5)))) 0 8 6)) (if rroom 6 ((upC cs 0 (upR (cs 0) 5 (if rroom 6 (cs 0 8 5) then (cs 0 8 5) + 1 else (cs 0 8 5)) (if rroom 6 (cs 0 8 5) then upd (cs 0 5) ((cs 0 8 5)).toNatClampNeg 0 else (cs 0 5)))) 0 8 6) then upd ((upC cs 0 (upR (cs 0) 5 (if rroom 6 (cs 0 8 5) then (cs 0 8 5) + 1 else (cs 0 8 5)) (if rroom 6 (cs 0 8 5) then upd (cs 0 5) ((cs 0 8 5)).toNatClampNeg 0 else (cs 0 5)))) 0 6) (((upC cs 0 (upR (cs 0) 5 (if rroom 6 (cs 0 8 5) then (cs 0 8 5) + 1 else (cs 0 8 5)) (if rroom 6 (cs 0 8 5) then upd (cs 0 5) ((cs 0 8 5)).toNatClampNeg 0 else (cs 0 5)))) 0 8 6)).toNatClampNeg 0 else ((upC cs 0 (upR (cs 0) 5 (if rroom 6 (cs 0 8 5) then (cs 0 8 5) + 1 else (cs 0 8 5)) (if rroom 6 (cs 0 8 5) then upd (cs 0 5) ((cs 0 8 5)).toNatClampNeg 0 else (cs 0 5)))) 0 6)))) 0 8 7)) (if rroom 6 ((upC (upC cs 0 (upR (cs 0) 5 (if rroom 6 (cs 0 8 5) then (cs 0 8 5) + 1 else (cs 0 8 5)) (if rroom 6 (cs 0 8 5) then upd (cs 0 5) ((cs 0 8 5)).toNatClampNeg 0 else (cs 0 5)))) 0 (upR ((upC cs 0 (upR (cs 0) 5 (if rroom 6 (cs 0 8 5) then (cs 0 8 5) + 1 else (cs 0 8 5)) (if rroom 6 (cs 0 8 5) then upd (cs 0 5) ((cs 0 8 5)).toNatClampNeg 0 else (cs 0 5)))) 0) 6 (if rroom 6 ((upC cs 0 (upR (cs 0) 5 (if rroom 6 (cs 0 8 5) then (cs 0 8 5) + 1 else (cs 0 8 5)) (if rroom 6 (cs 0 8 5) then upd (cs 0 5) ((cs 0 8 5)).toNatClampNeg 0 else (cs 0 5)))) 0 8 6) then ((upC cs 0 (upR (cs 0) 5 (if rroom 6 (cs 0 8 5) then (cs 0 8 5) + 1 else (cs 0 8 5)) (if rroom 6 (cs 0 8 5) then upd (cs 0 5) ((cs 0 8 5)).toNatClampNeg 0 else (cs 0 5)))) 0 8 6) + 1 else ((upC cs 0 (upR (cs 0) 5 (if rroom 6 (cs 0 8 5) then (cs 0 8 5) + 1 else (cs 0 8 5)) (if rroom 6 (cs 0 8 5) then upd (cs 0 5) ((cs 0 8 5)).toNatClampNeg 0 else (cs 0 5)))) 0 8 6)) (if rroom 6 ((upC cs 0 (upR (cs 0) 5 (if rroom 6 (cs 0 8 5) then (cs 0 8 5) + 1 else (cs 0 8 5)) (if rroom 6 (cs 0 8 5) then upd (cs 0 5) ((cs 0 8 5)).toNatClampNeg 0 else (cs 0 5)))) 0 8 6) then upd ((upC cs 0 (upR (cs 0) 5 (if rroom 6 (cs 0 8 5) then (cs 0 8 5) + 1 else (cs 0 8 5)) (if rroom 6 (cs 0 8 5) then upd (cs 0 5) ((cs 0 8 5)).toNatClampNeg 0 else (cs 0 5)))) 0 6) (((upC cs 0 (upR (cs 0) 5 (if rroom 6 (cs 0 8 5) then (cs 0 8 5) + 1 else (cs 0 8 5)) (if rroom 6 (cs 0 8 5) then upd (cs 0 5) ((cs 0 8 5)).toNatClampNeg 0 else (cs 0 5)))) 0 8 6)).toNatClampNeg 0 else ((upC cs 0 (upR (cs 0) 5 (if rroom 6 (cs 0 8 5) then (cs 0 8 5) + 1 else (cs 0 8 5)) (if rroom 6 (cs 0 8 5) then upd (cs 0 5) ((cs 0 8 5)).toNatClampNeg 0 else (cs 0 5)))) 0 6)))) 0 8 7) then upd ((upC (upC cs 0 (upR (cs 0) 5 (if rroom 6 (cs 0 8 5) then (cs 0 8 5) + 1 else (cs 0 8 5)) (if rroom 6 (cs 0 8 5) then upd (cs 0 5) ((cs 0 8 5)).toNatClampNeg 0 else (cs 0 5)))) 0 (upR ((upC cs 0 (upR (cs 0) 5 (if rroom 6 (cs 0 8 5) then (cs 0 8 5) + 1 else (cs 0 8 5)) (if rroom 6 (cs 0 8 5) then upd (cs 0 5) ((cs 0 8 5)).toNatClampNeg 0 else (cs 0 5)))) 0) 6 (if rroom 6 ((upC cs 0 (upR (cs 0) 5 (if rroom 6 (cs 0 8 5) then (cs 0 8 5) + 1 else (cs 0 8 5)) (if rroom 6 (cs 0 8 5) then upd (cs 0 5) ((cs 0 8 5)).toNatClampNeg 0 else (cs 0 5)))) 0 8 6) then ((upC cs 0 (upR (cs 0) 5 (if rroom 6 (cs 0 8 5) then (cs 0 8 5) + 1 else (cs 0 8 5)) (if rroom 6 (cs 0 8 5) then upd (cs 0 5) ((cs 0 8 5)).toNatClampNeg 0 else (cs 0 5)))) 0 8 6) + 1 else ((upC cs 0 (upR (cs 0) 5 (if rroom 6 (cs 0 8 5) then (cs 0 8 5) + 1 else (cs 0 8 5)) (if rroom 6 (cs 0 8 5) then upd (cs 0 5) ((cs 0 8 5)).toNatClampNeg 0 else (cs 0 5)))) 0 8 6)) (if rroom 6 ((upC cs 0 (upR (cs 0) 5 (if rroom 6 (cs 0 8 5) then (cs 0 8 5) + 1 else (cs 0 8 5)) (if rroom 6 (cs 0 8 5) then upd (cs 0 5) ((cs 0 8 5)).toNatClampNeg 0 else (cs 0 5)))) 0 8 6) then upd ((upC cs 0 (upR (cs 0) 5 (if rroom 6 (cs 0 8 5) then (cs 0 8 5) + 1 else (cs 0 8 5)) (if rroom 6 (cs 0 8 5) then upd (cs 0 5) ((cs 0 8 5)).toNatClampNeg 0 else (cs 0 5)))) 0 6) (((upC cs 0 (upR (cs 0) 5 (if rroom 6 (cs 0 8 5) then (cs 0 8 5) + 1 else (cs 0 8 5)) (if rroom 6 (cs 0 8 5) then upd (cs 0 5) ((cs 0 8 5)).toNatClampNeg 0 else (cs 0 5)))) 0 8 6)).toNatClampNeg 0 else ((upC cs 0 (upR (cs 0) 5 (if rroom 6 (cs 0 8 5) then (cs 0 8 5) + 1 else (cs 0 8 5)) (if rroom 6 (cs 0 8 5) then upd (cs 0 5) ((cs 0 8 5)).toNatClampNeg 0 else (cs 0 5)))) 0 6)))) 0 7) (((upC (upC cs 0 (upR (cs 0) 5 (if rroom 6 (cs 0 8 5) then (cs 0 8 5) + 1 else (cs 0 8 5)) (if rroom 6 (cs 0 8 5) then upd (cs 0 5) ((cs 0 8 5)).toNatClampNeg 0 else (cs 0 5)))) 0 (upR ((upC cs 0 (upR (cs 0) 5 (if rroom 6 (cs 0 8 5) then (cs 0 8 5) + 1 else (cs 0 8 5)) (if rroom 6 (cs 0 8 5) then upd (cs 0 5) ((cs 0 8 5)).toNatClampNeg 0 else (cs 0 5)))) 0) 6 (if rroom 6 ((upC cs 0 (upR (cs 0) 5 (if rroom 6 (cs 0 8 5) then (cs 0 8 5) + 1 else (cs 0 8 5)) (if rroom 6 (cs 0 8 5) then upd (cs 0 5) ((cs 0 8 5)).toNatClampNeg 0 else (cs 0 5)))) 0 8 6) then ((upC cs 0 (upR (cs 0) 5 (if rroom 6 (cs 0 8 5) then (cs 0 8 5) + 1 else (cs 0 8 5)) (if rroom 6 (cs 0 8 5) then upd (cs 0 5) ((cs 0 8 5)).toNatClampNeg 0 else (cs 0 5)))) 0 8 6) + 1 else ((upC cs 0 (upR (cs 0) 5 (if rroom 6 (cs 0 8 5) then (cs 0 8 5) + 1 else (cs 0 8 5)) (if rroom 6 (cs 0 8 5) then upd (cs 0 5) ((cs 0 8 5)).toNatClampNeg 0 else (cs 0 5)))) 0 8 6)) (if rroom 6 ((upC cs 0 (upR (cs 0) 5 (if rroom 6 (cs 0 8 5) then (cs 0 8 5) + 1 else (cs 0 8 5)) (if rroom 6 (cs 0 8 5) then upd (cs 0 5) ((cs 0 8 5)).toNatClampNeg 0 else (cs 0 5)))) 0 8 6) then upd ((upC cs 0 (upR (cs 0) 5 (if rroom 6 (cs 0 8 5) then (cs 0 8 5) + 1 else (cs 0 8 5)) (if rroom 6 (cs 0 8 5) then upd (cs 0 5) ((cs 0 8 5)).toNatClampNeg 0 else (cs 0 5)))) 0 6) (((upC cs 0 (upR (cs 0) 5 (if rroom 6 (cs 0 8 5) then (cs 0 8 5) + 1 else (cs 0 8 5)) (if rroom 6 (cs 0 8 5) then upd (cs 0 5) ((cs 0 8 5)).toNatClampNeg 0 else (cs 0 5)))) 0 8 6)).toNatClampNeg 0 else ((upC cs 0 (upR (cs 0) 5 (if rroom 6 (cs 0 8 5) then (cs 0 8 5) + 1 else (cs 0 8 5)) (if rroom 6 (cs 0 8 5) then upd (cs 0 5) ((cs 0 8 5)).toNatClampNeg 0 else (cs 0 5)))) 0 6)))) 0 8 7)).toNatClampNeg 0 else ((upC (upC cs 0 (upR (cs 0) 5 (if rroom 6 (cs 0 8 5) then (cs 0 8 5) + 1 else (cs 0 8 5)) (if rroom 6 (cs 0 8 5) then upd (cs 0 5) ((cs 0 8 5)).toNatClampNeg 0 else (cs 0 5)))) 0 (upR ((upC cs 0 (upR (cs 0) 5 (if rroom 6 (cs 0 8 5) then (cs 0 8 5) + 1 else (cs 0 8 5)) (if rroom 6 (cs 0 8 5) then upd (cs 0 5) ((cs 0 8 5)).toNatClampNeg 0 else (cs 0 5)))) 0) 6 (if rroom 6 ((upC cs 0 (upR (cs 0) 5 (if rroom 6 (cs 0 8 5) then (cs 0 8 5) + 1 else (cs 0 8 5)) (if rroom 6 (cs 0 8 5) then upd (cs 0 5) ((cs 0 8 5)).toNatClampNeg 0 else (cs 0 5)))) 0 8 6) then ((upC cs 0 (upR (cs 0) 5 (if rroom 6 (cs 0 8 5) then (cs 0 8 5) + 1 else (cs 0 8 5)) (if rroom 6 (cs 0 8 5) then upd (cs 0 5) ((cs 0 8 5)).toNatClampNeg 0 else (cs 0 5)))) 0 8 6) + 1 else ((upC cs 0 (upR (cs 0) 5 (if rroom 6 (cs 0 8 5) then (cs 0 8 5) + 1 else (cs 0 8 5)) (if rroom 6 (cs 0 8 5) then upd (cs 0 5) ((cs 0 8 5)).toNatClampNeg 0 else (cs 0 5)))) 0 8 6)) (if rroom 6 ((upC cs 0 (upR (cs 0) 5 (if rroom 6 (cs 0 8 5) then (cs 0 8 5) + 1 else (cs 0 8 5)) (if rroom 6 (cs 0 8 5) then upd (cs 0 5) ((cs 0 8 5)).toNatClampNeg 0 else (cs 0 5)))) 0 8 6) then upd ((upC cs 0 (upR (cs 0) 5 (if rroom 6 (cs 0 8 5) then (cs 0 8 5) + 1 else (cs 0 8 5)) (if rroom 6 (cs 0 8 5) then upd (cs 0 5) ((cs 0 8 5)).toNatClampNeg 0 else (cs 0 5)))) 0 6) (((upC cs 0 (upR (cs 0) 5 (if rroom 6 (cs 0 8 5) then (cs 0 8 5) + 1 else (cs 0 8 5)) (if rroom 6 (cs 0 8 5) then upd (cs 0 5) ((cs 0 8 5)).toNatClampNeg 0 else (cs 0 5)))) 0 8 6)).toNatClampNeg 0 else ((upC cs 0 (upR (cs 0) 5 (if rroom 6 (cs 0 8 5) then (cs 0 8 5) + 1 else (cs 0 8 5)) (if rroom 6 (cs 0 8 5) then upd (cs 0 5) ((cs 0 8 5)).toNatClampNeg 0 else (cs 0 5)))) 0 6)))) 0 7)))) 0 8 4) ((upC (upC (upC cs 0 (upR (cs 0) 5 (if rroom 6 (cs 0 8 5) then (cs 0 8 5) + 1 else (cs 0 8 5)) (if rroom 6 (cs 0 8 5) then upd (cs 0 5) ((cs 0 8 5)).toNatClampNeg 0 else (cs 0 5)))) 0 (upR ((upC cs 0 (upR (cs 0) 5 (if rroom 6 (cs 0 8 5) then (cs 0 8 5) + 1 else (cs 0 8 5)) (if rroom 6 (cs 0 8 5) then upd (cs 0 5) ((cs 0 8 5)).toNatClampNeg 0 else (cs 0 5)))) 0) 6 (if rroom 6 ((upC cs 0 (upR (cs 0) 5 (if rroom 6 (cs 0 8 5) then (cs 0 8 5) + 1 else (cs 0 8 5)) (if rroom 6 (cs 0 8 5) then upd (cs 0 5) ((cs 0 8 5)).toNatClampNeg 0 else (cs 0 5)))) 0 8 6) then ((upC cs 0 (upR (cs 0) 5 (if rroom 6 (cs 0 8 5) then (cs 0 8 5) + 1 else (cs 0 8 5)) (if rroom 6 (cs 0 8 5) then upd (cs 0 5) ((cs 0 8 5)).toNatClampNeg 0 else (cs 0 5)))) 0 8 6) + 1 else ((upC cs 0 (upR (cs 0) 5 (if rroom 6 (cs 0 8 5) then (cs 0 8 5) + 1 else (cs 0 8 5)) (if rroom 6 (cs 0 8 5) then upd (cs 0 5) ((cs 0 8 5)).toNatClampNeg 0 else (cs 0 5)))) 0 8 6)) (if rroom 6 ((upC cs 0 (upR (cs 0) 5 (if rroom 6 (cs 0 8 5) then (cs 0 8 5) + 1 else (cs 0 8 5)) (if rroom 6 (cs 0 8 5) then upd (cs 0 5) ((cs 0 8 5)).toNatClampNeg 0 else (cs 0 5)))) 0 8 6) then upd ((upC cs 0 (upR (cs 0) 5 (if rroom 6 (cs 0 8 5) then (cs 0 8 5) + 1 else (cs 0 8 5)) (if rroom 6 (cs 0 8 5) then upd (cs 0 5) ((cs 0 8 5)).toNatClampNeg 0 else (cs 0 5)))) 0 6) (((upC cs 0 (upR (cs 0) 5 (if rroom 6 (cs 0 8 5) then (cs 0 8 5) + 1 else (cs 0 8 5)) (if rroom 6 (cs 0 8 5) then upd (cs 0 5) ((cs 0 8 5)).toNatClampNeg 0 else (cs 0 5)))) 0 8 6)).toNatClampNeg 0 else ((upC cs 0 (upR (cs 0) 5 (if rroom 6 (cs 0 8 5) then (cs 0 8 5) + 1 else (cs 0 8 5)) (if rroom 6 (cs 0 8 5) then upd (cs 0 5) ((cs 0 8 5)).toNatClampNeg 0 else (cs 0 5)))) 0 6)))) 0 (upR ((upC (upC cs 0 (upR (cs 0) 5 (if rroom 6 (cs 0 8 5) then (cs 0 8 5) + 1 else (cs 0 8 5)) (if rroom 6 (cs 0 8 5) then upd (cs 0 5) ((cs 0 8 5)).toNatClampNeg 0 else (cs 0 5)))) 0 (upR ((upC cs 0 (upR (cs 0) 5 (if rroom 6 (cs 0 8 5) then (cs 0 8 5) + 1 else (cs 0 8 5)) (if rroom 6 (cs 0 8 5) then upd (cs 0 5) ((cs 0 8 5)).toNatClampNeg 0 else (cs 0 5)))) 0) 6 (if rroom 6 ((upC cs 0 (upR (cs 0) 5 (if rroom 6 (cs 0 8 5) then (cs 0 8 5) + 1 else (cs 0 8 5)) (if rroom 6 (cs 0 8 5) then upd (cs 0 5) ((cs 0 8 5)).toNatClampNeg 0 else (cs 0 5)))) 0 8 6) then ((upC cs 0 (upR (cs 0) 5 (if rroom 6 (cs 0 8 5) then (cs 0 8 5) + 1 else (cs 0 8 5)) (if rroom 6 (cs 0 8 5) then upd (cs 0 5) ((cs 0 8 5)).toNatClampNeg 0 else (cs 0 5)))) 0 8 6) + 1 else ((upC cs 0 (upR (cs 0) 5 (if rroom 6 (cs 0 8 5) then (cs 0 8 5) + 1 else (cs 0 8 5)) (if rroom 6 (cs 0 8 5) then upd (cs 0 5) ((cs 0 8 5)).toNatClampNeg 0 else (cs 0 5)))) 0 8 6)) (if rroom 6 ((upC cs 0 (upR (cs 0) 5 (if rroom 6 (cs 0 8 5) then (cs 0 8 5) + 1 else (cs 0 8 5)) (if rroom 6 (cs 0 8 5) then upd (cs 0 5) ((cs 0 8 5)).toNatClampNeg 0 else (cs 0 5)))) 0 8 6) then upd ((upC cs 0 (upR (cs 0) 5 (if rroom 6 (cs 0 8 5) then (cs 0 8 5) + 1 else (cs 0 8 5)) (if rroom 6 (cs 0 8 5) then upd (cs 0 5) ((cs 0 8 5)).toNatClampNeg 0 else (cs 0 5)))) 0 6) (((upC cs 0 (upR (cs 0) 5 (if rroom 6 (cs 0 8 5) then (cs 0 8 5) + 1 else (cs 0 8 5)) (if rroom 6 (cs 0 8 5) then upd (cs 0 5) ((cs 0 8 5)).toNatClampNeg 0 else (cs 0 5)))) 0 8 6)).toNatClampNeg 0 else ((upC cs 0 (upR (cs 0) 5 (if rroom 6 (cs 0 8 5) then (cs 0 8 5) + 1 else (cs 0 8 5)) (if rroom 6 (cs 0 8 5) then upd (cs 0 5) ((cs 0 8 5)).toNatClampNeg 0 else (cs 0 5)))) 0 6)))) 0) 7 (if rroom 6 ((upC (upC cs 0 (upR (cs 0) 5 (if rroom 6 (cs 0 8 5) then (cs 0 8 5) + 1 else (cs 0 8 5)) (if rroom 6 (cs 0 8 5) then upd (cs 0 5) ((cs 0 8 5)).toNatClampNeg 0 else (cs 0 5)))) 0 (upR ((upC cs 0 (upR (cs 0) 5 (if rroom 6 (cs 0 8 5) then (cs 0 8 5) + 1 else (cs 0 8 5)) (if rroom 6 (cs 0 8 5) then upd (cs 0 5) ((cs 0 8 5)).toNatClampNeg 0 else (cs 0 5)))) 0) 6 (if rroom 6 ((upC cs 0 (upR (cs 0) 5 (if rroom 6 (cs 0 8 5) then (cs 0 8 5) + 1 else (cs 0 8 5)) (if rroom 6 (cs 0 8 5) then upd (cs 0 5) ((cs 0 8 5)).toNatClampNeg 0 else (cs 0 5)))) 0 8 6) then ((upC cs 0 (upR (cs 0) 5 (if rroom 6 (cs 0 8 5) then (cs 0 8 5) + 1 else (cs 0 8 5)) (if rroom 6 (cs 0 8 5) then upd (cs 0 5) ((cs 0 8 5)).toNatClampNeg 0 else (cs 0 5)))) 0 8 6) + 1 else ((upC cs 0 (upR (cs 0) 5 (if rroom 6 (cs 0 8 5) then (cs 0 8 5) + 1 else (cs 0 8 5)) (if rroom 6 (cs 0 8 5) then upd (cs 0 5) ((cs 0 8 5)).toNatClampNeg 0 else (cs 0 5)))) 0 8 6)) (if rroom 6 ((upC cs 0 (upR (cs 0) 5 (if rroom 6 (cs 0 8 5) then (cs 0 8 5) + 1 else (cs 0 8 5)) (if rroom 6 (cs 0 8 5) then upd (cs 0 5) ((cs 0 8 5)).toNatClampNeg 0 else (cs 0 5)))) 0 8 6) then upd ((upC cs 0 (upR (cs 0) 5 (if rroom 6 (cs 0 8 5) then (cs 0 8 5) + 1 else (cs 0 8 5)) (if rroom 6 (cs 0 8 5) then upd (cs 0 5) ((cs 0 8 5)).toNatClampNeg 0 else (cs 0 5)))) 0 6) (((upC cs 0 (upR (cs 0) 5 (if rroom 6 (cs 0 8 5) then (cs 0 8 5) + 1 else (cs 0 8 5)) (if rroom 6 (cs 0 8 5) then upd (cs 0 5) ((cs 0 8 5)).toNatClampNeg 0 else (cs 0 5)))) 0 8 6)).toNatClampNeg 0 else ((upC cs 0 (upR (cs 0) 5 (if rroom 6 (cs 0 8 5) then (cs 0 8 5) + 1 else (cs 0 8 5)) (if rroom 6 (cs 0 8 5) then upd (cs 0 5) ((cs 0 8 5)).toNatClampNeg 0 else (cs 0 5)))) 0 6)))) 0 8 7) then ((upC (upC cs 0 (upR (cs 0) 5 (if rroom 6 (cs 0 8 5) then (cs 0 8 5) + 1 else (cs 0 8 5)) (if rroom 6 (cs 0 8 5) then upd (cs 0 5) ((cs 0 8 5)).toNatClampNeg 0 else (cs 0 5)))) 0 (upR ((upC cs 0 (upR (cs 0) 5 (if rroom 6 (cs 0 8 5) then (cs 0 8 5) + 1 else (cs 0 8 5)) (if rroom 6 (cs 0 8 5) then upd (cs 0 5) ((cs 0 8 5)).toNatClampNeg 0 else (cs 0 5)))) 0) 6 (if rroom 6 ((upC cs 0 (upR (cs 0) 5 (if rroom 6 (cs 0 8 5) then (cs 0 8 5) + 1 else (cs 0 8 5)) (if rroom 6 (cs 0 8 5) then upd (cs 0 5) ((cs 0 8 5)).toNatClampNeg 0 else (cs 0 5)))) 0 8 6) then ((upC cs 0 (upR (cs 0) 5 (if rroom 6 (cs 0 8 5) then (cs 0 8 5) + 1 else (cs 0 8 5)) (if rroom 6 (cs 0 8 5) then upd (cs 0 5) ((cs 0 8 5)).toNatClampNeg 0 else (cs 0 5)))) 0 8 6) + 1 else ((upC cs 0 (upR (cs 0) 5 (if rroom 6 (cs 0 8 5) then (cs 0 8 5) + 1 else (cs 0 8 5)) (if rroom 6 (cs 0 8 5) then upd (cs 0 5) ((cs 0 8 5)).toNatClampNeg 0 else (cs 0 5)))) 0 8 6)) (if rroom 6 ((upC cs 0 (upR (cs 0) 5 (if rroom 6 (cs 0 8 5) then (cs 0 8 5) + 1 else (cs 0 8 5)) (if rroom 6 (cs 0 8 5) then upd (cs 0 5) ((cs 0 8 5)).toNatClampNeg 0 else (cs 0 5)))) 0 8 6) then upd ((upC cs 0 (upR (cs 0) 5 (if rroom 6 (cs 0 8 5) then (cs 0 8 5) + 1 else (cs 0 8 5)) (if rroom 6 (cs 0 8 5) then upd (cs 0 5) ((cs 0 8 5)).toNatClampNeg 0 else (cs 0 5)))) 0 6) (((upC cs 0 (upR (cs 0) 5 (if rroom 6 (cs 0 8 5) then (cs 0 8 5) + 1 else (cs 0 8 5)) (if rroom 6 (cs 0 8 5) then upd (cs 0 5) ((cs 0 8 5)).toNatClampNeg 0 else (cs 0 5)))) 0 8 6)).toNatClampNeg 0 else ((upC cs 0 (upR (cs 0) 5 (if rroom 6 (cs 0 8 5) then (cs 0 8 5) + 1 else (cs 0 8 5)) (if rroom 6 (cs 0 8 5) then upd (cs 0 5) ((cs 0 8 5)).toNatClampNeg 0 else (cs 0 5)))) 0 6)))) 0 8 7) + 1 else ((upC (upC cs 0 (upR (cs 0) 5 (if rroom 6 (cs 0 8 5) then (cs 0 8 5) + 1 else (cs 0 8 5)) (if rroom 6 (cs 0 8 5) then upd (cs 0 5) ((cs 0 8 5)).toNatClampNeg 0 else (cs 0 5)))) 0 (upR ((upC cs 0 (upR (cs 0) 5 (if rroom 6 (cs 0 8 5) then (cs 0 8 5) + 1 else (cs 0 8 5)) (if rroom 6 (cs 0 8 5) then upd (cs 0 5) ((cs 0 8 5)).toNatClampNeg 0 else (cs 0 5)))) 0) 6 (if rroom 6 ((upC cs 0 (upR (cs 0) 5 (if rroom 6 (cs 0 8 5) then (cs 0 8 5) + 1 else (cs 0 8 5)) (if rroom 6 (cs 0 8 5) then upd (cs 0 5) ((cs 0 8 5)).toNatClampNeg 0 else (cs 0 5)))) 0 8 6) then ((upC cs 0 (upR (cs 0) 5 (if rroom 6 (cs 0 8 5) then (cs 0 8 5) + 1 else (cs 0 8 5)) (if rroom 6 (cs 0 8 5) then upd (cs 0 5) ((cs 0 8 5)).toNatClampNeg 0 else (cs 0 5)))) 0 8 6) + 1 else ((upC cs 0 (upR (cs 0) 5 (if rroom 6 (cs 0 8 5) then (cs 0 8 5) + 1 else (cs 0 8 5)) (if rroom 6 (cs 0 8 5) then upd (cs 0 5) ((cs 0 8 5)).toNatClampNeg 0 else (cs 0 5)))) 0 8 6)) (if rroom 6 ((upC cs 0 (upR (cs 0) 5 (if rroom 6 (cs 0 8 5) then (cs 0 8 5) + 1 else (cs 0 8 5)) (if rroom 6 (cs 0 8 5) then upd (cs 0 5) ((cs 0 8 5)).toNatClampNeg 0 else (cs 0 5)))) 0 8 6) then upd ((upC cs 0 (upR (cs 0) 5 (if rroom 6 (cs 0 8 5) then (cs 0 8 5) + 1 else (cs 0 8 5)) (if rroom 6 (cs 0 8 5) then upd (cs 0 5) ((cs 0 8 5)).toNatClampNeg 0 else (cs 0 5)))) 0 6) (((upC cs 0 (upR (cs 0) 5 (if rroom 6 (cs 0 8 5) then (cs 0 8 5) + 1 else (cs 0 8 5)) (if rroom 6 (cs 0 8 5) then upd (cs 0 5) ((cs 0 8 5)).toNatClampNeg 0 else (cs 0 5)))) 0 8 6)).toNatClampNeg 0 else ((upC cs 0 (upR (cs 0) 5 (if rroom 6 (cs 0 8 5) then (cs 0 8 5) + 1 else (cs 0 8 5)) (if rroom 6 (cs 0 8 5) then upd (cs 0 5) ((cs 0 8 5)).toNatClampNeg 0 else (cs 0 5)))) 0 6)))) 0 8 7)) (if rroom 6 ((upC (upC cs 0 (upR (cs 0) 5 (if rroom 6 (cs 0 8 5) then (cs 0 8 5) + 1 else (cs 0 8 5)) (if rroom 6 (cs 0 8 5) then upd (cs 0 5) ((cs 0 8 5)).toNatClampNeg 0 else (cs 0 5)))) 0 (upR ((upC cs 0 (upR (cs 0) 5 (if rroom 6 (cs 0 8 5) then (cs 0 8 5) + 1 else (cs 0 8 5)) (if rroom 6 (cs 0 8 5) then upd (cs 0 5) ((cs 0 8 5)).toNatClampNeg 0 else (cs 0 5)))) 0) 6 (if rroom 6 ((upC cs 0 (upR (cs 0) 5 (if rroom 6 (cs 0 8 5) then (cs 0 8 5) + 1 else (cs 0 8 5)) (if rroom 6 (cs 0 8 5) then upd (cs 0 5) ((cs 0 8 5)).toNatClampNeg 0 else (cs 0 5)))) 0 8 6) then ((upC cs 0 (upR (cs 0) 5 (if rroom 6 (cs 0 8 5) then (cs 0 8 5) + 1 else (cs 0 8 5)) (if rroom 6 (cs 0 8 5) then upd (cs 0 5) ((cs 0 8 5)).toNatClampNeg 0 else (cs 0 5)))) 0 8 6) + 1 else ((upC cs 0 (upR (cs 0) 5 (if rroom 6 (cs 0 8 5) then (cs 0 8 5) + 1 else (cs 0 8 5)) (if rroom 6 (cs 0 8 5) then upd (cs 0 5) ((cs 0 8 5)).toNatClampNeg 0 else (cs 0 5)))) 0 8 6)) (if rroom 6 ((upC cs 0 (upR (cs 0) 5 (if rroom 6 (cs 0 8 5) then (cs 0 8 5) + 1 else (cs 0 8 5)) (if rroom 6 (cs 0 8 5) then upd (cs 0 5) ((cs 0 8 5)).toNatClampNeg 0 else (cs 0 5)))) 0 8 6) then upd ((upC cs 0 (upR (cs 0) 5 (if rroom 6 (cs 0 8 5) then (cs 0 8 5) + 1 else (cs 0 8 5)) (if rroom 6 (cs 0 8 5) then upd (cs 0 5) ((cs 0 8 5)).toNatClampNeg 0 else (cs 0 5)))) 0 6) (((upC cs 0 (upR (cs 0) 5 (if rroom 6 (cs 0 8 5) then (cs 0 8 5) + 1 else (cs 0 8 5)) (if rroom 6 (cs 0 8 5) then upd (cs 0 5) ((cs 0 8 5)).toNatClampNeg 0 else (cs 0 5)))) 0 8 6)).toNatClampNeg 0 else ((upC cs 0 (upR (cs 0) 5 (if rroom 6 (cs 0 8 5) then (cs 0 8 5) + 1 else (cs 0 8 5)) (if rroom 6 (cs 0 8 5) then upd (cs 0 5) ((cs 0 8 5)).toNatClampNeg 0 else (cs 0 5)))) 0 6)))) 0 8 7) then upd ((upC (upC cs 0 (upR (cs 0) 5 (if rroom 6 (cs 0 8 5) then (cs 0 8 5) + 1 else (cs 0 8 5)) (if rroom 6 (cs 0 8 5) then upd (cs 0 5) ((cs 0 8 5)).toNatClampNeg 0 else (cs 0 5)))) 0 (upR ((upC cs 0 (upR (cs 0) 5 (if rroom 6 (cs 0 8 5) then (cs 0 8 5) + 1 else (cs 0 8 5)) (if rroom 6 (cs 0 8 5) then upd (cs 0 5) ((cs 0 8 5)).toNatClampNeg 0 else (cs 0 5)))) 0) 6 (if rroom 6 ((upC cs 0 (upR (cs 0) 5 (if rroom 6 (cs 0 8 5) then (cs 0 8 5) + 1 else (cs 0 8 5)) (if rroom 6 (cs 0 8 5) then upd (cs 0 5) ((cs 0 8 5)).toNatClampNeg 0 else (cs 0 5)))) 0 8 6) then ((upC cs 0 (upR (cs 0) 5 (if rroom 6 (cs 0 8 5) then (cs 0 8 5) + 1 else (cs 0 8 5)) (if rroom 6 (cs 0 8 5) then upd (cs 0 5) ((cs 0 8 5)).toNatClampNeg 0 else (cs 0 5)))) 0 8 6) + 1 else ((upC cs 0 (upR (cs 0) 5 (if rroom 6 (cs 0 8 5) then (cs 0 8 5) + 1 else (cs 0 8 5)) (if rroom 6 (cs 0 8 5) then upd (cs 0 5) ((cs 0 8 5)).toNatClampNeg 0 else (cs 0 5)))) 0 8 6)) (if rroom 6 ((upC cs 0 (upR (cs 0) 5 (if rroom 6 (cs 0 8 5) then (cs 0 8 5) + 1 else (cs 0 8 5)) (if rroom 6 (cs 0 8 5) then upd (cs 0 5) ((cs 0 8 5)).toNatClampNeg 0 else (cs 0 5)))) 0 8 6) then upd ((upC cs 0 (upR (cs 0) 5 (if rroom 6 (cs 0 8 5) then (cs 0 8 5) + 1 else (cs 0 8 5)) (if rroom 6 (cs 0 8 5) then upd (cs 0 5) ((cs 0 8 5)).toNatClampNeg 0 else (cs 0 5)))) 0 6) (((upC cs 0 (upR (cs 0) 5 (if rroom 6 (cs 0 8 5) then (cs 0 8 5) + 1 else (cs 0 8 5)) (if rroom 6 (cs 0 8 5) then upd (cs 0 5) ((cs 0 8 5)).toNatClampNeg 0 else (cs 0 5)))) 0 8 6)).toNatClampNeg 0 else ((upC cs 0 (upR (cs 0) 5 (if rroom 6 (cs 0 8 5) then (cs 0 8 5) + 1 else (cs 0 8 5)) (if rroom 6 (cs 0 8 5) then upd (cs 0 5) ((cs 0 8 5)).toNatClampNeg 0 else (cs 0 5)))) 0 6)))) 0 7) (((upC (upC cs 0 (upR (cs 0) 5 (if rroom 6 (cs 0 8 5) then (cs 0 8 5) + 1 else (cs 0 8 5)) (if rroom 6 (cs 0 8 5) then upd (cs 0 5) ((cs 0 8 5)).toNatClampNeg 0 else (cs 0 5)))) 0 (upR ((upC cs 0 (upR (cs 0) 5 (if rroom 6 (cs 0 8 5) then (cs 0 8 5) + 1 else (cs 0 8 5)) (if rroom 6 (cs 0 8 5) then upd (cs 0 5) ((cs 0 8 5)).toNatClampNeg 0 else (cs 0 5)))) 0) 6 (if rroom 6 ((upC cs 0 (upR (cs 0) 5 (if rroom 6 (cs 0 8 5) then (cs 0 8 5) + 1 else (cs 0 8 5)) (if rroom 6 (cs 0 8 5) then upd (cs 0 5) ((cs 0 8 5)).toNatClampNeg 0 else (cs 0 5)))) 0 8 6) then ((upC cs 0 (upR (cs 0) 5 (if rroom 6 (cs 0 8 5) then (cs 0 8 5) + 1 else (cs 0 8 5)) (if rroom 6 (cs 0 8 5) then upd (cs 0 5) ((cs 0 8 5)).toNatClampNeg 0 else (cs 0 5)))) 0 8 6) + 1 else ((upC cs 0 (upR (cs 0) 5 (if rroom 6 (cs 0 8 5) then (cs 0 8 5) + 1 else (cs 0 8 5)) (if rroom 6 (cs 0 8 5) then upd (cs 0 5) ((cs 0 8 5)).toNatClampNeg 0 else (cs 0 5)))) 0 8 6)) (if rroom 6 ((upC cs 0 (upR (cs 0) 5 (if rroom 6 (cs 0 8 5) then (cs 0 8 5) + 1 else (cs 0 8 5)) (if rroom 6 (cs 0 8 5) then upd (cs 0 5) ((cs 0 8 5)).toNatClampNeg 0 else (cs 0 5)))) 0 8 6) then upd ((upC cs 0 (upR (cs 0) 5 (if rroom 6 (cs 0 8 5) then (cs 0 8 5) + 1 else (cs 0 8 5)) (if rroom 6 (cs 0 8 5) then upd (cs 0 5) ((cs 0 8 5)).toNatClampNeg 0 else (cs 0 5)))) 0 6) (((upC cs 0 (upR (cs 0) 5 (if rroom 6 (cs 0 8 5) then (cs 0 8 5) + 1 else (cs 0 8 5)) (if rroom 6 (cs 0 8 5) then upd (cs 0 5) ((cs 0 8 5)).toNatClampNeg 0 else (cs 0 5)))) 0 8 6)).toNatClampNeg 0 else ((upC cs 0 (upR (cs 0) 5 (if rroom 6 (cs 0 8 5) then (cs 0 8 5) + 1 else (cs 0 8 5)) (if rroom 6 (cs 0 8 5) then upd (cs 0 5) ((cs 0 8 5)).toNatClampNeg 0 else (cs 0 5)))) 0 6)))) 0 8 7)).toNatClampNeg 0 else ((upC (upC cs 0 (upR (cs 0) 5 (if rroom 6 (cs 0 8 5) then (cs 0 8 5) + 1 else (cs 0 8 5)) (if rroom 6 (cs 0 8 5) then upd (cs 0 5) ((cs 0 8 5)).toNatClampNeg 0 else (cs 0 5)))) 0 (upR ((upC cs 0 (upR (cs 0) 5 (if rroom 6 (cs 0 8 5) then (cs 0 8 5) + 1 else (cs 0 8 5)) (if rroom 6 (cs 0 8 5) then upd (cs 0 5) ((cs 0 8 5)).toNatClampNeg 0 else (cs 0 5)))) 0) 6 (if rroom 6 ((upC cs 0 (upR (cs 0) 5 (if rroom 6 (cs 0 8 5) then (cs 0 8 5) + 1 else (cs 0 8 5)) (if rroom 6 (cs 0 8 5) then upd (cs 0 5) ((cs 0 8 5)).toNatClampNeg 0 else (cs 0 5)))) 0 8 6) then ((upC cs 0 (upR (cs 0) 5 (if rroom 6 (cs 0 8 5) then (cs 0 8 5) + 1 else (cs 0 8 5)) (if rroom 6 (cs 0 8 5) then upd (cs 0 5) ((cs 0 8 5)).toNatClampNeg 0 else (cs 0 5)))) 0 8 6) + 1 else ((upC cs 0 (upR (cs 0) 5 (if rroom 6 (cs 0 8 5) then (cs 0 8 5) + 1 else (cs 0 8 5)) (if rroom 6 (cs 0 8 5) then upd (cs 0 5) ((cs 0 8 5)).toNatClampNeg 0 else (cs 0 5)))) 0 8 6)) (if rroom 6 ((upC cs 0 (upR (cs 0) 5 (if rroom 6 (cs 0 8 5) then (cs 0 8 5) + 1 else (cs 0 8 5)) (if rroom 6 (cs 0 8 5) then upd (cs 0 5) ((cs 0 8 5)).toNatClampNeg 0 else (cs 0 5)))) 0 8 6) then upd ((upC cs 0 (upR (cs 0) 5 (if rroom 6 (cs 0 8 5) then (cs 0 8 5) + 1 else (cs 0 8 5)) (if rroom 6 (cs 0 8 5) then upd (cs 0 5) ((cs 0 8 5)).toNatClampNeg 0 else (cs 0 5)))) 0 6) (((upC cs 0 (upR (cs 0) 5 (if rroom 6 (cs 0 8 5) then (cs 0 8 5) + 1 else (cs 0 8 5)) (if rroom 6 (cs 0 8 5) then upd (cs 0 5) ((cs 0 8 5)).toNatClampNeg 0 else (cs 0 5)))) 0 8 6)).toNatClampNeg 0 else ((upC cs 0 (upR (cs 0) 5 (if rroom 6 (cs 0 8 5) then (cs 0 8 5) + 1 else (cs 0 8 5)) (if rroom 6 (cs 0 8 5) then upd (cs 0 5) ((cs 0 8 5)).toNatClampNeg 0 else (cs 0 5)))) 0 6)))) 0 7)))) 0 4) i ((hW.flat (k := 0) (a := x + 1) (by decide) rfl).row (k := 4) (r := x + 10) (by decide) rfl rfl) (by decide)) ((hW.flat (k := 0) (a := x + 1) (by decide) rfl).row (k := 4) (r := x + 10) (by decide) rfl rfl).1 hM hS hl.1 rfl rfl ⟨Nat.le_of_ble_eq_true rfl, Nat.le_of_ble_eq_true rfl⟩ ⟨Nat.le_of_ble_eq_true rfl, Nat.le_of_ble_eq_true rfl⟩ (Nat.le_of_ble_eq_true rfl) (fun H locs hM hS => ?_)
      have hM := hR.eq hM (putF_row (hW.flat (k := 0) (a := x + 1) (by decide) rfl) (k := 4) (by decide) rfl rfl)
      have hM := hR.eq hM (putC_flat hW (k := 0) (by decide) rfl)
      have hM := hR.eq hM putC_putC
      have hW := ClsAt.put (g := g) (M := M) (x := x) (cs := (upC (upC (upC (upC cs 0 (upR (cs 0) 5 (if rroom 6 (cs 0 8 5) then (cs 0 8 5) + 1 else (cs 0 8 5)) (if rroom 6 (cs 0 8 5) then upd (cs 0 5) ((cs 0 8 5)).toNatClampNeg 0 else (cs 0 5)))) 0 (upR ((upC cs 0 (upR (cs 0) 5 (if rroom 6 (cs 0 8 5) then (cs 0 8 5) + 1 else (cs 0 8 5)) (if rroom 6 (cs 0 8 5) then upd (cs 0 5) ((cs 0 8 5)).toNatClampNeg 0 else (cs 0 5)))) 0) 6 (if rroom 6 ((upC cs 0 (upR (cs 0) 5 (if rroom 6 (cs 0 8 5) then (cs 0 8 5) + 1 else (cs 0 8 5)) (if rroom 6 (cs 0 8 5) then upd (cs 0 5) ((cs 0 8 5)).toNatClampNeg 0 else (cs 0 5)))) 0 8 6) then ((upC cs 0 (upR (cs 0) 5 (if rroom 6 (cs 0 8 5) then (cs 0 8 5) + 1 else (cs 0 8 5)) (if rroom 6 (cs 0 8 5) then upd (cs 0 5) ((cs 0 8 5)).toNatClampNeg 0 else (cs 0 5)))) 0 8 6) + 1 else ((upC cs 0 (upR (cs 0) 5 (if rroom 6 (cs 0 8 5) then (cs 0 8 5) + 1 else (cs 0 8 5)) (if rroom 6 (cs 0 8 5) then upd (cs 0 5) ((cs 0 8 5)).toNatClampNeg 0 else (cs 0 5)))) 0 8 6)) (if rroom 6 ((upC cs 0 (upR (cs 0) 5 (if rroom 6 (cs 0 8 5) then (cs 0 8 5) + 1 else (cs 0 8 5)) (if rroom 6 (cs 0 8 5) then upd (cs 0 5) ((cs 0 8 5)).toNatClampNeg 0 else (cs 0 5)))) 0 8 6) then upd ((upC cs 0 (upR (cs 0) 5 (if rroom 6 (cs 0 8 5) then (cs 0 8 5) + 1 else (cs 0 8 5)) (if rroom 6 (cs 0 8 5) then upd (cs 0 5) ((cs 0 8 5)).toNatClampNeg 0 else (cs 0 5)))) 0 6) (((upC cs 0 (upR (cs 0) 5 (if rroom 6 (cs 0 8 5) then (cs 0 8 5) + 1 else (cs 0 8 5)) (if rroom 6 (cs 0 8 5) then upd (cs 0 5) ((cs 0 8 5)).toNatClampNeg 0 else (cs 0 5)))) 0 8 6)).toNatClampNeg 0 else ((upC cs 0 (upR (cs 0) 5 (if rroom 6 (cs 0 8 5) then (cs 0 8 5) + 1 else (cs 0 8 5)) (if rroom 6 (cs 0 8 5) then upd (cs 0 5) ((cs 0 8 5)).toNatClampNeg 0 else (cs 0 5)))) 0 6)))) 0 (upR ((upC (upC cs 0 (upR (cs 0) 5 (if rroom 6 (cs 0 8 5) then (cs 0 8 5) + 1 else (cs 0 8 5)) (if rroom 6 (cs 0 8 5) then upd (cs 0 5) ((cs 0 8 5)).toNatClampNeg 0 else (cs 0 5)))) 0 (upR ((upC cs 0 (upR (cs 0) 5 (if rroom 6 (cs 0 8 5) then (cs 0 8 5) + 1 else (cs 0 8 5)) (if rroom 6 (cs 0 8 5) then upd (cs 0 5) ((cs 0 8 5)).toNatClampNeg 0 else (cs 0 5)))) 0) 6 (if rroom 6 ((upC cs 0 (upR (cs 0) 5 (if rroom 6 (cs 0 8 5) then (cs 0 8 5) + 1 else (cs 0 8 5)) (if rroom 6 (cs 0 8 5) then upd (cs 0 5) ((cs 0 8 5)).toNatClampNeg 0 else (cs 0 5)))) 0 8 6) then ((upC cs 0 (upR (cs 0) 5 (if rroom 6 (cs 0 8 5) then (cs 0 8 5) + 1 else (cs 0 8 5)) (if rroom 6 (cs 0 8 5) then upd (cs 0 5) ((cs 0 8 5)).toNatClampNeg 0 else (cs 0 5)))) 0 8 6) + 1 else ((upC cs 0 (upR (cs 0) 5 (if rroom 6 (cs 0 8 5) then (cs 0 8 5) + 1 else (cs 0 8 5)) (if rroom 6 (cs 0 8 5) then upd (cs 0 5) ((cs 0 8 5)).toNatClampNeg 0 else (cs 0 5)))) 0 8 6)) (if rroom 6 ((upC cs 0 (upR (cs 0) 5 (if rroom 6 (cs 0 8 5) then (cs 0 8 5) + 1 else (cs 0 8 5)) (if rroom 6 (cs 0 8 5) then upd (cs 0 5) ((cs 0 8 5)).toNatClampNeg 0 else (cs 0 5)))) 0 8 6) then upd ((upC cs 0 (upR (cs 0) 5 (if rroom 6 (cs 0 8 5) then (cs 0 8 5) + 1 else (cs 0 8 5)) (if rroom 6 (cs 0 8 5) then upd (cs 0 5) ((cs 0 8 5)).toNatClampNeg 0 else (cs 0 5)))) 0 6) (((upC cs 0 (upR (cs 0) 5 (if rroom 6 (cs 0 8 5) then (cs 0 8 5) + 1 else (cs 0 8 5)) (if rroom 6 (cs 0 8 5) then upd (cs 0 5) ((cs 0 8 5)).toNatClampNeg 0 else (cs 0 5)))) 0 8 6)).toNatClampNeg 0 else ((upC cs 0 (upR (cs 0) 5 (if rroom 6 (cs 0 8 5) then (cs 0 8 5) + 1 else (cs 0 8 5)) (if rroom 6 (cs 0 8 5) then upd (cs 0 5) ((cs 0 8 5)).toNatClampNeg 0 else (cs 0 5)))) 0 6)))) 0) 7 (if rroom 6 ((upC (upC cs 0 (upR (cs 0) 5 (if rroom 6 (cs 0 8 5) then (cs 0 8 5) + 1 else (cs 0 8 5)) (if rroom 6 (cs 0 8 5) then upd (cs 0 5) ((cs 0 8 5)).toNatClampNeg 0 else (cs 0 5)))) 0 (upR ((upC cs 0 (upR (cs 0) 5 (if rroom 6 (cs 0 8 5) then (cs 0 8 5) + 1 else (cs 0 8 5)) (if rroom 6 (cs 0 8 5) then upd (cs 0 5) ((cs 0 8 5)).toNatClampNeg 0 else (cs 0 5)))) 0) 6 (if rroom 6 ((upC cs 0 (upR (cs 0) 5 (if rroom 6 (cs 0 8 5) then (cs 0 8 5) + 1 else (cs 0 8 5)) (if rroom 6 (cs 0 8 5) then upd (cs 0 5) ((cs 0 8 5)).toNatClampNeg 0 else (cs 0 5)))) 0 8 6) then ((upC cs 0 (upR (cs 0) 5 (if rroom 6 (cs 0 8 5) then (cs 0 8 5) + 1 else (cs 0 8 5)) (if rroom 6 (cs 0 8 5) then upd (cs 0 5) ((cs 0 8 5)).toNatClampNeg 0 else (cs 0 5)))) 0 8 6) + 1 else ((upC cs 0 (upR (cs 0) 5 (if rroom 6 (cs 0 8 5) then (cs 0 8 5) + 1 else (cs 0 8 5)) (if rroom 6 (cs 0 8 5) then upd (cs 0 5) ((cs 0 8 5)).toNatClampNeg 0 else (cs 0 5)))) 0 8 6)) (if rroom 6 ((upC cs 0 (upR (cs 0) 5 (if rroom 6 (cs 0 8 5) then (cs 0 8 5) + 1 else (cs 0 8 5)) (if rroom 6 (cs 0 8 5) then upd (cs 0 5) ((cs 0 8 5)).toNatClampNeg 0 else (cs 0 5)))) 0 8 6) then upd ((upC cs 0 (upR (cs 0) 5 (if rroom 6 (cs 0 8 5) then (cs 0 8 5) + 1 else (cs 0 8 5)) (if rroom 6 (cs 0 8 5) then upd (cs 0 5) ((cs 0 8 5)).toNatClampNeg 0 else (cs 0 5)))) 0 6) (((upC cs 0 (upR (cs 0) 5 (if rroom 6 (cs 0 8 5) then (cs 0 8 5) + 1 else (cs 0 8 5)) (if rroom 6 (cs 0 8 5) then upd (cs 0 5) ((cs 0 8 5)).toNatClampNeg 0 else (cs 0 5)))) 0 8 6)).toNatClampNeg 0 else ((upC cs 0 (upR (cs 0) 5 (if rroom 6 (cs 0 8 5) then (cs 0 8 5) + 1 else (cs 0 8 5)) (if rroom 6 (cs 0 8 5) then upd (cs 0 5) ((cs 0 8 5)).toNatClampNeg 0 else (cs 0 5)))) 0 6)))) 0 8 7) then ((upC (upC cs 0 (upR (cs 0) 5 (if rroom 6 (cs 0 8 5) then (cs 0 8 5) + 1 else (cs 0 8 5)) (if rroom 6 (cs 0 8 5) then upd (cs 0 5) ((cs 0 8 5)).toNatClampNeg 0 else (cs 0 5)))) 0 (upR ((upC cs 0 (upR (cs 0) 5 (if rroom 6 (cs 0 8 5) then (cs 0 8 5) + 1 else (cs 0 8 5)) (if rroom 6 (cs 0 8 5) then upd (cs 0 5) ((cs 0 8 5)).toNatClampNeg 0 else (cs 0 5)))) 0) 6 (if rroom 6 ((upC cs 0 (upR (cs 0) 5 (if rroom 6 (cs 0 8 5) then (cs 0 8 5) + 1 else (cs 0 8 5)) (if rroom 6 (cs 0 8 5) then upd (cs 0 5) ((cs 0 8 5)).toNatClampNeg 0 else (cs 0 5)))) 0 8 6) then ((upC cs 0 (upR (cs 0) 5 (if rroom 6 (cs 0 8 5) then (cs 0 8 5) + 1 else (cs 0 8 5)) (if rroom 6 (cs 0 8 5) then upd (cs 0 5) ((cs 0 8 5)).toNatClampNeg 0 else (cs 0 5)))) 0 8 6) + 1 else ((upC cs 0 (upR (cs 0) 5 (if rroom 6 (cs 0 8 5) then (cs 0 8 5) + 1 else (cs 0 8 5)) (if rroom 6 (cs 0 8 5) then upd (cs 0 5) ((cs 0 8 5)).toNatClampNeg 0 else (cs 0 5)))) 0 8 6)) (if rroom 6 ((upC cs 0 (upR (cs 0) 5 (if rroom 6 (cs 0 8 5) then (cs 0 8 5) + 1 else (cs 0 8 5)) (if rroom 6 (cs 0 8 5) then upd (cs 0 5) ((cs 0 8 5)).toNatClampNeg 0 else (cs 0 5)))) 0 8 6) then upd ((upC cs 0 (upR (cs 0) 5 (if rroom 6 (cs 0 8 5) then (cs 0 8 5) + 1 else (cs 0 8 5)) (if rroom 6 (cs 0 8 5) then upd (cs 0 5) ((cs 0 8 5)).toNatClampNeg 0 else (cs 0 5)))) 0 6) (((upC cs 0 (upR (cs 0) 5 (if rroom 6 (cs 0 8 5) then (cs 0 8 5) + 1 else (cs 0 8 5)) (if rroom 6 (cs 0 8 5) then upd (cs 0 5) ((cs 0 8 5)).toNatClampNeg 0 else (cs 0 5)))) 0 8 6)).toNatClampNeg 0 else ((upC cs 0 (upR (cs 0) 5 (if rroom 6 (cs 0 8 5) then (cs 0 8 5) + 1 else (cs 0 8 5)) (if rroom 6 (cs 0 8 5) then upd (cs 0 5) ((cs 0 8 5)).toNatClampNeg 0 else (cs 0 5)))) 0 6)))) 0 8 7) + 1 else ((upC (upC cs 0 (upR (cs 0) 5 (if rroom 6 (cs 0 8 5) then (cs 0 8 5) + 1 else (cs 0 8 5)) (if rroom 6 (cs 0 8 5) then upd (cs 0 5) ((cs 0 8 5)).toNatClampNeg 0 else (cs 0 5)))) 0 (upR ((upC cs 0 (upR (cs 0) 5 (if rroom 6 (cs 0 8 5) then (cs 0 8 5) + 1 else (cs 0 8 5)) (if rroom 6 (cs 0 8 5) then upd (cs 0 5) ((cs 0 8 5)).toNatClampNeg 0 else (cs 0 5)))) 0) 6 (if rroom 6 ((upC cs 0 (upR (cs 0) 5 (if rroom 6 (cs 0 8 5) then (cs 0 8 5) + 1 else (cs 0 8 5)) (if rroom 6 (cs 0 8 5) then upd (cs 0 5) ((cs 0 8 5)).toNatClampNeg 0 else (cs 0 5)))) 0 8 6) then ((upC cs 0 (upR (cs 0) 5 (if rroom 6 (cs 0 8 5) then (cs 0 8 5) + 1 else (cs 0 8 5)) (if rroom 6 (cs 0 8 5) then upd (cs 0 5) ((cs 0 8 5)).toNatClampNeg 0 else (cs 0 5)))) 0 8 6) + 1 else ((upC cs 0 (upR (cs 0) 5 (if rroom 6 (cs 0 8 5) then (cs 0 8 5) + 1 else (cs 0 8 5)) (if rroom 6 (cs 0 8 5) then upd (cs 0 5) ((cs 0 8 5)).toNatClampNeg 0 else (cs 0 5)))) 0 8 6)) (if rroom 6 ((upC cs 0 (upR (cs 0) 5 (if rroom 6 (cs 0 8 5) then (cs 0 8 5) + 1 else (cs 0 8 5)) (if rroom 6 (cs 0 8 5) then upd (cs 0 5) ((cs 0 8 5)).toNatClampNeg 0 else (cs 0 5)))) 0 8 6) then upd ((upC cs 0 (upR (cs 0) 5 (if rroom 6 (cs 0 8 5) then (cs 0 8 5) + 1 else (cs 0 8 5)) (if rroom 6 (cs 0 8 5) then upd (cs 0 5) ((cs 0 8 5)).toNatClampNeg 0 else (cs 0 5)))) 0 6) (((upC cs 0 (upR (cs 0) 5 (if rroom 6 (cs 0 8 5) then (cs 0 8 5) + 1 else (cs 0 8 5)) (if rroom 6 (cs 0 8 5) then upd (cs 0 5) ((cs 0 8 5)).toNatClampNeg 0 else (cs 0 5)))) 0 8 6)).toNatClampNeg 0 else ((upC cs 0 (upR (cs 0) 5 (if rroom 6 (cs 0 8 5) then (cs 0 8 5) + 1 else (cs 0 8 5)) (if rroom 6 (cs 0 8 5) then upd (cs 0 5) ((cs 0 8 5)).toNatClampNeg 0 else (cs 0 5)))) 0 6)))) 0 8 7)) (if rroom 6 ((upC (upC cs 0 (upR (cs 0) 5 (if rroom 6 (cs 0 8 5) then (cs 0 8 5) + 1 else (cs 0 8 5)) (if rroom 6 (cs 0 8 5) then upd (cs 0 5) ((cs 0 8 5)).toNatClampNeg 0 else (cs 0 5)))) 0 (upR ((upC cs 0 (upR (cs 0) 5 (if rroom 6 (cs 0 8 5) then (cs 0 8 5) + 1 else (cs 0 8 5)) (if rroom 6 (cs 0 8 5) then upd (cs 0 5) ((cs 0 8 5)).toNatClampNeg 0 else (cs 0 5)))) 0) 6 (if rroom 6 ((upC cs 0 (upR (cs 0) 5 (if rroom 6 (cs 0 8 5) then (cs 0 8 5) + 1 else (cs 0 8 5)) (if rroom 6 (cs 0 8 5) then upd (cs 0 5) ((cs 0 8 5)).toNatClampNeg 0 else (cs 0 5)))) 0 8 6) then ((upC cs 0 (upR (cs 0) 5 (if rroom 6 (cs 0 8 5) then (cs 0 8 5) + 1 else (cs 0 8 5)) (if rroom 6 (cs 0 8 5) then upd (cs 0 5) ((cs 0 8 5)).toNatClampNeg 0 else (cs 0 5)))) 0 8 6) + 1 else ((upC cs 0 (upR (cs 0) 5 (if rroom 6 (cs 0 8 5) then (cs 0 8 5) + 1 else (cs 0 8 5)) (if rroom 6 (cs 0 8 5) then upd (cs 0 5) ((cs 0 8 5)).toNatClampNeg 0 else (cs 0 5)))) 0 8 6)) (if rroom 6 ((upC cs 0 (upR (cs 0) 5 (if rroom 6 (cs 0 8 5) then (cs 0 8 5) + 1 else (cs 0 8 5)) (if rroom 6 (cs 0 8 5) then upd (cs 0 5) ((cs 0 8 5)).toNatClampNeg 0 else (cs 0 5)))) 0 8 6) then upd ((upC cs 0 (upR (cs 0) 5 (if rroom 6 (cs 0 8 5) then (cs 0 8 5) + 1 else (cs 0 8 5)) (if rroom 6 (cs 0 8 5) then upd (cs 0 5) ((cs 0 8 5)).toNatClampNeg 0 else (cs 0 5)))) 0 6) (((upC cs 0 (upR (cs 0) 5 (if rroom 6 (cs 0 8 5) then (cs 0 8 5) + 1 else (cs 0 8 5)) (if rroom 6 (cs 0 8 5) then upd (cs 0 5) ((cs 0 8 5)).toNatClampNeg 0 else (cs 0 5)))) 0 8 6)).toNatClampNeg 0 else ((upC cs 0 (upR (cs 0) 5 (if rroom 6 (cs 0 8 5) then (cs 0 8 5) + 1 else (cs 0 8 5)) (if rroom 6 (cs 0 8 5) then upd (cs 0 5) ((cs 0 8 5)).toNatClampNeg 0 else (cs 0 5)))) 0 6)))) 0 8 7) then upd ((upC (upC cs 0 (upR (cs 0) 5 (if rroom 6 (cs 0 8 5) then (cs 0 8 5) + 1 else (cs 0 8 5)) (if rroom 6 (cs 0 8 5) then upd (cs 0 5) ((cs 0 8 5)).toNatClampNeg 0 else (cs 0 5)))) 0 (upR ((upC cs 0 (upR (cs 0) 5 (if rroom 6 (cs 0 8 5) then (cs 0 8 5) + 1 else (cs 0 8 5)) (if rroom 6 (cs 0 8 5) then upd (cs 0 5) ((cs 0 8 5)).toNatClampNeg 0 else (cs 0 5)))) 0) 6 (if rroom 6 ((upC cs 0 (upR (cs 0) 5 (if rroom 6 (cs 0 8 5) then (cs 0 8 5) + 1 else (cs 0 8 5)) (if rroom 6 (cs 0 8 5) then upd (cs 0 5) ((cs 0 8 5)).toNatClampNeg 0 else (cs 0 5)))) 0 8 6) then ((upC cs 0 (upR (cs 0) 5 (if rroom 6 (cs 0 8 5) then (cs 0 8 5) + 1 else (cs 0 8 5)) (if rroom 6 (cs 0 8 5) then upd (cs 0 5) ((cs 0 8 5)).toNatClampNeg 0 else (cs 0 5)))) 0 8 6) + 1 else ((upC cs 0 (upR (cs 0) 5 (if rroom 6 (cs 0 8 5) then (cs 0 8 5) + 1 else (cs 0 8 5)) (if rroom 6 (cs 0 8 5) then upd (cs 0 5) ((cs 0 8 5)).toNatClampNeg 0 else (cs 0 5)))) 0 8 6)) (if rroom 6 ((upC cs 0 (upR (cs 0) 5 (if rroom 6 (cs 0 8 5) then (cs 0 8 5) + 1 else (cs 0 8 5)) (if rroom 6 (cs 0 8 5) then upd (cs 0 5) ((cs 0 8 5)).toNatClampNeg 0 else (cs 0 5)))) 0 8 6) then upd ((upC cs 0 (upR (cs 0) 5 (if rroom 6 (cs 0 8 5) then (cs 0 8 5) + 1 else (cs 0 8 5)) (if rroom 6 (cs 0 8 5) then upd (cs 0 5) ((cs 0 8 5)).toNatClampNeg 0 else (cs 0 5)))) 0 6) (((upC cs 0 (upR (cs 0) 5 (if rroom 6 (cs 0 8 5) then (cs 0 8 5) + 1 else (cs 0 8 5)) (if rroom 6 (cs 0 8 5) then upd (cs 0 5) ((cs 0 8 5)).toNatClampNeg 0 else (cs 0 5)))) 0 8 6)).toNatClampNeg 0 else ((upC cs 0 (upR (cs 0) 5 (if rroom 6 (cs 0 8 5) then (cs 0 8 5) + 1 else (cs 0 8 5)) (if rroom 6 (cs 0 8 5) then upd (cs 0 5) ((cs 0 8 5)).toNatClampNeg 0 else (cs 0 5)))) 0 6)))) 0 7) (((upC (upC cs 0 (upR (cs 0) 5 (if rroom 6 (cs 0 8 5) then (cs 0 8 5) + 1 else (cs 0 8 5)) (if rroom 6 (cs 0 8 5) then upd (cs 0 5) ((cs 0 8 5)).toNatClampNeg 0 else (cs 0 5)))) 0 (upR ((upC cs 0 (upR (cs 0) 5 (if rroom 6 (cs 0 8 5) then (cs 0 8 5) + 1 else (cs 0 8 5)) (if rroom 6 (cs 0 8 5) then upd (cs 0 5) ((cs 0 8 5)).toNatClampNeg 0 else (cs 0 5)))) 0) 6 (if rroom 6 ((upC cs 0 (upR (cs 0) 5 (if rroom 6 (cs 0 8 5) then (cs 0 8 5) + 1 else (cs 0 8 5)) (if rroom 6 (cs 0 8 5) then upd (cs 0 5) ((cs 0 8 5)).toNatClampNeg 0 else (cs 0 5)))) 0 8 6) then ((upC cs 0 (upR (cs 0) 5 (if rroom 6 (cs 0 8 5) then (cs 0 8 5) + 1 else (cs 0 8 5)) (if rroom 6 (cs 0 8 5) then upd (cs 0 5) ((cs 0 8 5)).toNatClampNeg 0 else (cs 0 5)))) 0 8 6) + 1 else ((upC cs 0 (upR (cs 0) 5 (if rroom 6 (cs 0 8 5) then (cs 0 8 5) + 1 else (cs 0 8 5)) (if rroom 6 (cs 0 8 5) then upd (cs 0 5) ((cs 0 8 5)).toNatClampNeg 0 else (cs 0 5)))) 0 8 6)) (if rroom 6 ((upC cs 0 (upR (cs 0) 5 (if rroom 6 (cs 0 8 5) then (cs 0 8 5) + 1 else (cs 0 8 5)) (if rroom 6 (cs 0 8 5) then upd (cs 0 5) ((cs 0 8 5)).toNatClampNeg 0 else (cs 0 5)))) 0 8 6) then upd ((upC cs 0 (upR (cs 0) 5 (if rroom 6 (cs 0 8 5) then (cs 0 8 5) + 1 else (cs 0 8 5)) (if rroom 6 (cs 0 8 5) then upd (cs 0 5) ((cs 0 8 5)).toNatClampNeg 0 else (cs 0 5)))) 0 6) (((upC cs 0 (upR (cs 0) 5 (if rroom 6 (cs 0 8 5) then (cs 0 8 5) + 1 else (cs 0 8 5)) (if rroom 6 (cs 0 8 5) then upd (cs 0 5) ((cs 0 8 5)).toNatClampNeg 0 else (cs 0 5)))) 0 8 6)).toNatClampNeg 0 else ((upC cs 0 (upR (cs 0) 5 (if rroom 6 (cs 0 8 5) then (cs 0 8 5) + 1 else (cs 0 8 5)) (if rroom 6 (cs 0 8 5) then upd (cs 0 5) ((cs 0 8 5)).toNatClampNeg 0 else (cs 0 5)))) 0 6)))) 0 8 7)).toNatClampNeg 0 else ((upC (upC cs 0 (upR (cs 0) 5 (if rroom 6 (cs 0 8 5) then (cs 0 8 5) + 1 else (cs 0 8 5)) (if rroom 6 (cs 0 8 5) then upd (cs 0 5) ((cs 0 8 5)).toNatClampNeg 0 else (cs 0 5)))) 0 (upR ((upC cs 0 (upR (cs 0) 5 (if rroom 6 (cs 0 8 5) then (cs 0 8 5) + 1 else (cs 0 8 5)) (if rroom 6 (cs 0 8 5) then upd (cs 0 5) ((cs 0 8 5)).toNatClampNeg 0 else (cs 0 5)))) 0) 6 (if rroom 6 ((upC cs 0 (upR (cs 0) 5 (if rroom 6 (cs 0 8 5) then (cs 0 8 5) + 1 else (cs 0 8 5)) (if rroom 6 (cs 0 8 5) then upd (cs 0 5) ((cs 0 8 5)).toNatClampNeg 0 else (cs 0 5)))) 0 8 6) then ((upC cs 0 (upR (cs 0) 5 (if rroom 6 (cs 0 8 5) then (cs 0 8 5) + 1 else (cs 0 8 5)) (if rroom 6 (cs 0 8 5) then upd (cs 0 5) ((cs 0 8 5)).toNatClampNeg 0 else (cs 0 5)))) 0 8 6) + 1 else ((upC cs 0 (upR (cs 0) 5 (if rroom 6 (cs 0 8 5) then (cs 0 8 5) + 1 else (cs 0 8 5)) (if rroom 6 (cs 0 8 5) then upd (cs 0 5) ((cs 0 8 5)).toNatClampNeg 0 else (cs 0 5)))) 0 8 6)) (if rroom 6 ((upC cs 0 (upR (cs 0) 5 (if rroom 6 (cs 0 8 5) then (cs 0 8 5) + 1 else (cs 0 8 5)) (if rroom 6 (cs 0 8 5) then upd (cs 0 5) ((cs 0 8 5)).toNatClampNeg 0 else (cs 0 5)))) 0 8 6) then upd ((upC cs 0 (upR (cs 0) 5 (if rroom 6 (cs 0 8 5) then (cs 0 8 5) + 1 else (cs 0 8 5)) (if rroom 6 (cs 0 8 5) then upd (cs 0 5) ((cs 0 8 5)).toNatClampNeg 0 else (cs 0 5)))) 0 6) (((upC cs 0 (upR (cs 0) 5 (if rroom 6 (cs 0 8 5) then (cs 0 8 5) + 1 else (cs 0 8 5)) (if rroom 6 (cs 0 8 5) then upd (cs 0 5) ((cs 0 8 5)).toNatClampNeg 0 else (cs 0 5)))) 0 8 6)).toNatClampNeg 0 else ((upC cs 0 (upR (cs 0) 5 (if rroom 6 (cs 0 8 5) then (cs 0 8 5) + 1 else (cs 0 8 5)) (if rroom 6 (cs 0 8 5) then upd (cs 0 5) ((cs 0 8 5)).toNatClampNeg 0 else (cs 0 5)))) 0 6)))) 0 7)))) 0 (upR ((upC (upC (upC cs 0 (upR (cs 0) 5 (if rroom 6 (cs 0 8 5) then (cs 0 8 5) + 1 else (cs 0 8 5)) (if rroom 6 (cs 0 8 5) then upd (cs 0 5) ((cs 0 8 5)).toNatClampNeg 0 else (cs 0 5)))) 0 (upR ((upC cs 0 (upR (cs 0) 5 (if rroom 6 (cs 0 8 5) then (cs 0 8 5) + 1 else (cs 0 8 5)) (if rroom 6 (cs 0 8 5) then upd (cs 0 5) ((cs 0 8 5)).toNatClampNeg 0 else (cs 0 5)))) 0) 6 (if rroom 6 ((upC cs 0 (upR (cs 0) 5 (if rroom 6 (cs 0 8 5) then (cs 0 8 5) + 1 else (cs 0 8 5)) (if rroom 6 (cs 0 8 5) then upd (cs 0 5) ((cs 0 8 5)).toNatClampNeg 0 else (cs 0 5)))) 0 8 6) then ((upC cs 0 (upR (cs 0) 5 (if rroom 6 (cs 0 8 5) then (cs 0 8 5) + 1 else (cs 0 8 5)) (if rroom 6 (cs 0 8 5) then upd (cs 0 5) ((cs 0 8 5)).toNatClampNeg 0 else (cs 0 5)))) 0 8 6) + 1 else ((upC cs 0 (upR (cs 0) 5 (if rroom 6 (cs 0 8 5) then (cs 0 8 5) + 1 else (cs 0 8 5)) (if rroom 6 (cs 0 8 5) then upd (cs 0 5) ((cs 0 8 5)).toNatClampNeg 0 else (cs 0 5)))) 0 8 6)) (if rroom 6 ((upC cs 0 (upR (cs 0) 5 (if rroom 6 (cs 0 8 5) then (cs 0 8 5) + 1 else (cs 0 8 5)) (if rroom 6 (cs 0 8 5) then upd (cs 0 5) ((cs 0 8 5)).toNatClampNeg 0 else (cs 0 5)))) 0 8 6) then upd ((upC cs 0 (upR (cs 0) 5 (if rroom 6 (cs 0 8 5) then (cs 0 8 5) + 1 else (cs 0 8 5)) (if rroom 6 (cs 0 8 5) then upd (cs 0 5) ((cs 0 8 5)).toNatClampNeg 0 else (cs 0 5)))) 0 6) (((upC cs 0 (upR (cs 0) 5 (if rroom 6 (cs 0 8 5) then (cs 0 8 5) + 1 else (cs 0 8 5)) (if rroom 6 (cs 0 8 5) then upd (cs 0 5) ((cs 0 8 5)).toNatClampNeg 0 else (cs 0 5)))) 0 8 6)).toNatClampNeg 0 else ((upC cs 0 (upR (cs 0) 5 (if rroom 6 (cs 0 8 5) then (cs 0 8 5) + 1 else (cs 0 8 5)) (if rroom 6 (cs 0 8 5) then upd (cs 0 5) ((cs 0 8 5)).toNatClampNeg 0 else (cs 0 5)))) 0 6)))) 0 (upR ((upC (upC cs 0 (upR (cs 0) 5 (if rroom 6 (cs 0 8 5) then (cs 0 8 5) + 1 else (cs 0 8 5)) (if rroom 6 (cs 0 8 5) then upd (cs 0 5) ((cs 0 8 5)).toNatClampNeg 0 else (cs 0 5)))) 0 (upR ((upC cs 0 (upR (cs 0) 5 (if rroom 6 (cs 0 8 5) then (cs 0 8 5) + 1 else (cs 0 8 5)) (if rroom 6 (cs 0 8 5) then upd (cs 0 5) ((cs 0 8 5)).toNatClampNeg 0 else (cs 0 5)))) 0) 6 (if rroom 6 ((upC cs 0 (upR (cs 0) 5 (if rroom 6 (cs 0 8 5) then (cs 0 8 5) + 1 else (cs 0 8 5)) (if rroom 6 (cs 0 8 5) then upd (cs 0 5) ((cs 0 8 5)).toNatClampNeg 0 else (cs 0 5)))) 0 8 6) then ((upC cs 0 (upR (cs 0) 5 (if rroom 6 (cs 0 8 5) then (cs 0 8 5) + 1 else (cs 0 8 5)) (if rroom 6 (cs 0 8 5) then upd (cs 0 5) ((cs 0 8 5)).toNatClampNeg 0 else (cs 0 5)))) 0 8 6) + 1 else ((upC cs 0 (upR (cs 0) 5 (if rroom 6 (cs 0 8 5) then (cs 0 8 5) + 1 else (cs 0 8 5)) (if rroom 6 (cs 0 8 5) then upd (cs 0 5) ((cs 0 8 5)).toNatClampNeg 0 else (cs 0 5)))) 0 8 6)) (if rroom 6 ((upC cs 0 (upR (cs 0) 5 (if rroom 6 (cs 0 8 5) then (cs 0 8 5) + 1 else (cs 0 8 5)) (if rroom 6 (cs 0 8 5) then upd (cs 0 5) ((cs 0 8 5)).toNatClampNeg 0 else (cs 0 5)))) 0 8 6) then upd ((upC cs 0 (upR (cs 0) 5 (if rroom 6 (cs 0 8 5) then (cs 0 8 5) + 1 else (cs 0 8 5)) (if rroom 6 (cs 0 8 5) then upd (cs 0 5) ((cs 0 8 5)).toNatClampNeg 0 else (cs 0 5)))) 0 6) (((upC cs 0 (upR (cs 0) 5 (if rroom 6 (cs 0 8 5) then (cs 0 8 5) + 1 else (cs 0 8 5)) (if rroom 6 (cs 0 8 5) then upd (cs 0 5) ((cs 0 8 5)).toNatClampNeg 0 else (cs 0 5)))) 0 8 6)).toNatClampNeg 0 else ((upC cs 0 (upR (cs 0) 5 (if rroom 6 (cs 0 8 5) then (cs 0 8 5) + 1 else (cs 0 8 5)) (if rroom 6 (cs 0 8 5) then upd (cs 0 5) ((cs 0 8 5)).toNatClampNeg 0 else (cs 0 5)))) 0 6)))) 0) 7 (if rroom 6 ((upC (upC cs 0 (upR (cs 0) 5 (if rroom 6 (cs 0 8 5) then (cs 0 8 5) + 1 else (cs 0 8 5)) (if rroom 6 (cs 0 8 5) then upd (cs 0 5) ((cs 0 8 5)).toNatClampNeg 0 else (cs 0 5)))) 0 (upR ((upC cs 0 (upR (cs 0) 5 (if rroom 6 (cs 0 8 5) then (cs 0 8 5) + 1 else (cs 0 8 5)) (if rroom 6 (cs 0 8 5) then upd (cs 0 5) ((cs 0 8 5)).toNatClampNeg 0 else (cs 0 5)))) 0) 6 (if rroom 6 ((upC cs 0 (upR (cs 0) 5 (if rroom 6 (cs 0 8 5) then (cs 0 8 5) + 1 else (cs 0 8 5)) (if rroom 6 (cs 0 8 5) then upd (cs 0 5) ((cs 0 8 5)).toNatClampNeg 0 else (cs 0 5)))) 0 8 6) then ((upC cs 0 (upR (cs 0) 5 (if rroom 6 (cs 0 8 5) then (cs 0 8 5) + 1 else (cs 0 8 5)) (if rroom 6 (cs 0 8 5) then upd (cs 0 5) ((cs 0 8 5)).toNatClampNeg 0 else (cs 0 5)))) 0 8 6) + 1 else ((upC cs 0 (upR (cs 0) 5 (if rroom 6 (cs 0 8 5) then (cs 0 8 5) + 1 else (cs 0 8 5)) (if rroom 6 (cs 0 8 5) then upd (cs 0 5) ((cs 0 8 5)).toNatClampNeg 0 else (cs 0 5)))) 0 8 6)) (if rroom 6 ((upC cs 0 (upR (cs 0) 5 (if rroom 6 (cs 0 8 5) then (cs 0 8 5) + 1 else (cs 0 8 5)) (if rroom 6 (cs 0 8 5) then upd (cs 0 5) ((cs 0 8 5)).toNatClampNeg 0 else (cs 0 5)))) 0 8 6) then upd ((upC cs 0 (upR (cs 0) 5 (if rroom 6 (cs 0 8 5) then (cs 0 8 5) + 1 else (cs 0 8 5)) (if rroom 6 (cs 0 8 5) then upd (cs 0 5) ((cs 0 8 5)).toNatClampNeg 0 else (cs 0 5)))) 0 6) (((upC cs 0 (upR (cs 0) 5 (if rroom 6 (cs 0 8 5) then (cs 0 8 5) + 1 else (cs 0 8 5)) (if rroom 6 (cs 0 8 5) then upd (cs 0 5) ((cs 0 8 5)).toNatClampNeg 0 else (cs 0 5)))) 0 8 6)).toNatClampNeg 0 else ((upC cs 0 (upR (cs 0) 5 (if rroom 6 (cs 0 8 5) then (cs 0 8 5) + 1 else (cs 0 8 5)) (if rroom 6 (cs 0 8 5) then upd (cs 0 5) ((cs 0 8 5)).toNatClampNeg 0 else (cs 0 5)))) 0 6)))) 0 8 7) then ((upC (upC cs 0 (upR (cs 0) 5 (if rroom 6 (cs 0 8 5) then (cs 0 8 5) + 1 else (cs 0 8 5)) (if rroom 6 (cs 0 8 5) then upd (cs 0 5) ((cs 0 8 5)).toNatClampNeg 0 else (cs 0 5)))) 0 (upR ((upC cs 0 (upR (cs 0) 5 (if rroom 6 (cs 0 8 5) then (cs 0 8 5) + 1 else (cs 0 8 5)) (if rroom 6 (cs 0 8 5) then upd (cs 0 5) ((cs 0 8 5)).toNatClampNeg 0 else (cs 0 5)))) 0) 6 (if rroom 6 ((upC cs 0 (upR (cs 0) 5 (if rroom 6 (cs 0 8 5) then (cs 0 8 5) + 1 else (cs 0 8 5)) (if rroom 6 (cs 0 8 5) then upd (cs 0 5) ((cs 0 8 5)).toNatClampNeg 0 else (cs 0 5)))) 0 8 6) then ((upC cs 0 (upR (cs 0) 5 (if rroom 6 (cs 0 8 5) then (cs 0 8 5) + 1 else (cs 0 8 5)) (if rroom 6 (cs 0 8 5) then upd (cs 0 5) ((cs 0 8 5)).toNatClampNeg 0 else (cs 0 5)))) 0 8 6) + 1 else ((upC cs 0 (upR (cs 0) 5 (if rroom 6 (cs 0 8 5) then (cs 0 8 5) + 1 else (cs 0 8 5)) (if rroom 6 (cs 0 8 5) then upd (cs 0 5) ((cs 0 8 5)).toNatClampNeg 0 else (cs 0 5)))) 0 8 6)) (if rroom 6 ((upC cs 0 (upR (cs 0) 5 (if rroom 6 (cs 0 8 5) then (cs 0 8 5) + 1 else (cs 0 8 5)) (if rroom 6 (cs 0 8 5) then upd (cs 0 5) ((cs 0 8 5)).toNatClampNeg 0 else (cs 0 5)))) 0 8 6) then upd ((upC cs 0 (upR (cs 0) 5 (if rroom 6 (cs 0 8 5) then (cs 0 8 5) + 1 else (cs 0 8 5)) (if rroom 6 (cs 0 8 5) then upd (cs 0 5) ((cs 0 8 5)).toNatClampNeg 0 else (cs 0 5)))) 0 6) (((upC cs 0 (upR (cs 0) 5 (if rroom 6 (cs 0 8 5) then (cs 0 8 5) + 1 else (cs 0 8 5)) (if rroom 6 (cs 0 8 5) then upd (cs 0 5) ((cs 0 8 5)).toNatClampNeg 0 else (cs 0 5)))) 0 8 6)).toNatClampNeg 0 else ((upC cs 0 (upR (cs 0) 5 (if rroom 6 (cs 0 8 5) then (cs 0 8 5) + 1 else (cs 0 8 5)) (if rroom 6 (cs 0 8 5) then upd (cs 0 5) ((cs 0 8 5)).toNatClampNeg 0 else (cs 0 5)))) 0 6)))) 0 8 7) + 1 else ((upC (upC cs 0 (upR (cs 0) 5 (if rroom 6 (cs 0 8 5) then (cs 0 8 5) + 1 else (cs 0 8 5)) (if rroom 6 (cs 0 8 5) then upd (cs 0 5) ((cs 0 8 5)).toNatClampNeg 0 else (cs 0 5)))) 0 (upR ((upC cs 0 (upR (cs 0) 5 (if rroom 6 (cs 0 8 5) then (cs 0 8 5) + 1 else (cs 0 8 5)) (if rroom 6 (cs 0 8 5) then upd (cs 0 5) ((cs 0 8 5)).toNatClampNeg 0 else (cs 0 5)))) 0) 6 (if rroom 6 ((upC cs 0 (upR (cs 0) 5 (if rroom 6 (cs 0 8 5) then (cs 0 8 5) + 1 else (cs 0 8 5)) (if rroom 6 (cs 0 8 5) then upd (cs 0 5) ((cs 0 8 5)).toNatClampNeg 0 else (cs 0 5)))) 0 8 6) then ((upC cs 0 (upR (cs 0) 5 (if rroom 6 (cs 0 8 5) then (cs 0 8 5) + 1 else (cs 0 8 5)) (if rroom 6 (cs 0 8 5) then upd (cs 0 5) ((cs 0 8 5)).toNatClampNeg 0 else (cs 0 5)))) 0 8 6) + 1 else ((upC cs 0 (upR (cs 0) 5 (if rroom 6 (cs 0 8 5) then (cs 0 8 5) + 1 else (cs 0 8 5)) (if rroom 6 (cs 0 8 5) then upd (cs 0 5) ((cs 0 8 5)).toNatClampNeg 0 else (cs 0 5)))) 0 8 6)) (if rroom 6 ((upC cs 0 (upR (cs 0) 5 (if rroom 6 (cs 0 8 5) then (cs 0 8 5) + 1 else (cs 0 8 5)) (if rroom 6 (cs 0 8 5) then upd (cs 0 5) ((cs 0 8 5)).toNatClampNeg 0 else (cs 0 5)))) 0 8 6) then upd ((upC cs 0 (upR (cs 0) 5 (if rroom 6 (cs 0 8 5) then (cs 0 8 5) + 1 else (cs 0 8 5)) (if rroom 6 (cs 0 8 5) then upd (cs 0 5) ((cs 0 8 5)).toNatClampNeg 0 else (cs 0 5)))) 0 6) (((upC cs 0 (upR (cs 0) 5 (if rroom 6 (cs 0 8 5) then (cs 0 8 5) + 1 else (cs 0 8 5)) (if rroom 6 (cs 0 8 5) then upd (cs 0 5) ((cs 0 8 5)).toNatClampNeg 0 else (cs 0 5)))) 0 8 6)).toNatClampNeg 0 else ((upC cs 0 (upR (cs 0) 5 (if rroom 6 (cs 0 8 5) then (cs 0 8 5) + 1 else (cs 0 8 5)) (if rroom 6 (cs 0 8 5) then upd (cs 0 5) ((cs 0 8 5)).toNatClampNeg 0 else (cs 0 5)))) 0 6)))) 0 8 7)) (if rroom 6 ((upC (upC cs 0 (upR (cs 0) 5 (if rroom 6 (cs 0 8 5) then (cs 0 8 5) + 1 else (cs 0 8 5)) (if rroom 6 (cs 0 8 5) then upd (cs 0 5) ((cs 0 8 5)).toNatClampNeg 0 else (cs 0 5)))) 0 (upR ((upC cs 0 (upR (cs 0) 5 (if rroom 6 (cs 0 8 5) then (cs 0 8 5) + 1 else (cs 0 8 5)) (if rroom 6 (cs 0 8 5) then upd (cs 0 5) ((cs 0 8 5)).toNatClampNeg 0 else (cs 0 5)))) 0) 6 (if rroom 6 ((upC cs 0 (upR (cs 0) 5 (if rroom 6 (cs 0 8 5) then (cs 0 8 5) + 1 else (cs 0 8 5)) (if rroom 6 (cs 0 8 5) then upd (cs 0 5) ((cs 0 8 5)).toNatClampNeg 0 else (cs 0 5)))) 0 8 6) then ((upC cs 0 (upR (cs 0) 5 (if rroom 6 (cs 0 8 5) then (cs 0 8 5) + 1 else (cs 0 8 5)) (if rroom 6 (cs 0 8 5) then upd (cs 0 5) ((cs 0 8 5)).toNatClampNeg 0 else (cs 0 5)))) 0 8 6) + 1 else ((upC cs 0 (upR (cs 0) 5 (if rroom 6 (cs 0 8 5) then (cs 0 8 5) + 1 else (cs 0 8 5)) (if rroom 6 (cs 0 8 5) then upd (cs 0 5) ((cs 0 8 5)).toNatClampNeg 0 else (cs 0 5)))) 0 8 6)) (if rroom 6 ((upC cs 0 (upR (cs 0) 5 (if rroom 6 (cs 0 8 5) then (cs 0 8 5) + 1 else (cs 0 8 5)) (if rroom 6 (cs 0 8 5) then upd (cs 0 5) ((cs 0 8 5)).toNatClampNeg 0 else (cs 0 5)))) 0 8 6) then upd ((upC cs 0 (upR (cs 0) 5 (if rroom 6 (cs 0 8 5) then (cs 0 8 5) + 1 else (cs 0 8 5)) (if rroom 6 (cs 0 8 5) then upd (cs 0 5) ((cs 0 8 5)).toNatClampNeg 0 else (cs 0 5)))) 0 6) (((upC cs 0 (upR (cs 0) 5 (if rroom 6 (cs 0 8 5) then (cs 0 8 5) + 1 else (cs 0 8 5)) (if rroom 6 (cs 0 8 5) then upd (cs 0 5) ((cs 0 8 5)).toNatClampNeg 0 else (cs 0 5)))) 0 8 6)).toNatClampNeg 0 else ((upC cs 0 (upR (cs 0) 5 (if rroom 6 (cs 0 8 5) then (cs 0 8 5) + 1 else (cs 0 8 5)) (if rroom 6 (cs 0 8 5) then upd (cs 0 5) ((cs 0 8 5)).toNatClampNeg 0 else (cs 0 5)))) 0 6)))) 0 8 7) then upd ((upC (upC cs 0 (upR (cs 0) 5 (if rroom 6 (cs 0 8 5) then (cs 0 8 5) + 1 else (cs 0 8 5)) (if rroom 6 (cs 0 8 5) then upd (cs 0 5) ((cs 0 8 5)).toNatClampNeg 0 else (cs 0 5)))) 0 (upR ((upC cs 0 (upR (cs 0) 5 (if rroom 6 (cs 0 8 5) then (cs 0 8 5) + 1 else (cs 0 8 5)) (if rroom 6 (cs 0 8 5) then upd (cs 0 5) ((cs 0 8 5)).toNatClampNeg 0 else (cs 0 5)))) 0) 6 (if rroom 6 ((upC cs 0 (upR (cs 0) 5 (if rroom 6 (cs 0 8 5) then (cs 0 8 5) + 1 else (cs 0 8 5)) (if rroom 6 (cs 0 8 5) then upd (cs 0 5) ((cs 0 8 5)).toNatClampNeg 0 else (cs 0 5)))) 0 8 6) then ((upC cs 0 (upR (cs 0) 5 (if rroom 6 (cs 0 8 5) then (cs 0 8 5) + 1 else (cs 0 8 5)) (if rroom 6 (cs 0 8 5) then upd (cs 0 5) ((cs 0 8 5)).toNatClampNeg 0 else (cs 0 5)))) 0 8 6) + 1 else ((upC cs 0 (upR (cs 0) 5 (if rroom 6 (cs 0 8 5) then (cs 0 8 5) + 1 else (cs 0 8 5)) (if rroom 6 (cs 0 8 5) then upd (cs 0 5) ((cs 0 8 5)).toNatClampNeg 0 else (cs 0 5)))) 0 8 6)) (if rroom 6 ((upC cs 0 (upR (cs 0) 5 (if rroom 6 (cs 0 8 5) then (cs 0 8 5) + 1 else (cs 0 8 5)) (if rroom 6 (cs 0 8 5) then upd (cs 0 5) ((cs 0 8 5)).toNatClampNeg 0 else (cs 0 5)))) 0 8 6) then upd ((upC cs 0 (upR (cs 0) 5 (if rroom 6 (cs 0 8 5) then (cs 0 8 5) + 1 else (cs 0 8 5)) (if rroom 6 (cs 0 8 5) then upd (cs 0 5) ((cs 0 8 5)).toNatClampNeg 0 else (cs 0 5)))) 0 6) (((upC cs 0 (upR (cs 0) 5 (if rroom 6 (cs 0 8 5) then (cs 0 8 5) + 1 else (cs 0 8 5)) (if rroom 6 (cs 0 8 5) then upd (cs 0 5) ((cs 0 8 5)).toNatClampNeg 0 else (cs 0 5)))) 0 8 6)).toNatClampNeg 0 else ((upC cs 0 (upR (cs 0) 5 (if rroom 6 (cs 0 8 5) then (cs 0 8 5) + 1 else (cs 0 8 5)) (if rroom 6 (cs 0 8 5) then upd (cs 0 5) ((cs 0 8 5)).toNatClampNeg 0 else (cs 0 5)))) 0 6)))) 0 7) (((upC (upC cs 0 (upR (cs 0) 5 (if rroom 6 (cs 0 8 5) then (cs 0 8 5) + 1 else (cs 0 8 5)) (if rroom 6 (cs 0 8 5) then upd (cs 0 5) ((cs 0 8 5)).toNatClampNeg 0 else (cs 0 5)))) 0 (upR ((upC cs 0 (upR (cs 0) 5 (if rroom 6 (cs 0 8 5) then (cs 0 8 5) + 1 else (cs 0 8 5)) (if rroom 6 (cs 0 8 5) then upd (cs 0 5) ((cs 0 8 5)).toNatClampNeg 0 else (cs 0 5)))) 0) 6 (if rroom 6 ((upC cs 0 (upR (cs 0) 5 (if rroom 6 (cs 0 8 5) then (cs 0 8 5) + 1 else (cs 0 8 5)) (if rroom 6 (cs 0 8 5) then upd (cs 0 5) ((cs 0 8 5)).toNatClampNeg 0 else (cs 0 5)))) 0 8 6) then ((upC cs 0 (upR (cs 0) 5 (if rroom 6 (cs 0 8 5) then (cs 0 8 5) + 1 else (cs 0 8 5)) (if rroom 6 (cs 0 8 5) then upd (cs 0 5) ((cs 0 8 5)).toNatClampNeg 0 else (cs 0 5)))) 0 8 6) + 1 else ((upC cs 0 (upR (cs 0) 5 (if rroom 6 (cs 0 8 5) then (cs 0 8 5) + 1 else (cs 0 8 5)) (if rroom 6 (cs 0 8 5) then upd (cs 0 5) ((cs 0 8 5)).toNatClampNeg 0 else (cs 0 5)))) 0 8 6)) (if rroom 6 ((upC cs 0 (upR (cs 0) 5 (if rroom 6 (cs 0 8 5) then (cs 0 8 5) + 1 else (cs 0 8 5)) (if rroom 6 (cs 0 8 5) then upd (cs 0 5) ((cs 0 8 5)).toNatClampNeg 0 else (cs 0 5)))) 0 8 6) then upd ((upC cs 0 (upR (cs 0) 5 (if rroom 6 (cs 0 8 5) then (cs 0 8 5) + 1 else (cs 0 8 5)) (if rroom 6 (cs 0 8 5) then upd (cs 0 5) ((cs 0 8 5)).toNatClampNeg 0 else (cs 0 5)))) 0 6) (((upC cs 0 (upR (cs 0) 5 (if rroom 6 (cs 0 8 5) then (cs 0 8 5) + 1 else (cs 0 8 5)) (if rroom 6 (cs 0 8 5) then upd (cs 0 5) ((cs 0 8 5)).toNatClampNeg 0 else (cs 0 5)))) 0 8 6)).toNatClampNeg 0 else ((upC cs 0 (upR (cs 0) 5 (if rroom 6 (cs 0 8 5) then (cs 0 8 5) + 1 else (cs 0 8 5)) (if rroom 6 (cs 0 8 5) then upd (cs 0 5) ((cs 0 8 5)).toNatClampNeg 0 else (cs 0 5)))) 0 6)))) 0 8 7)).toNatClampNeg 0 else ((upC (upC cs 0 (upR (cs 0) 5 (if rroom 6 (cs 0 8 5) then (cs 0 8 5) + 1 else (cs 0 8 5)) (if rroom 6 (cs 0 8 5) then upd (cs 0 5) ((cs 0 8 5)).toNatClampNeg 0 else (cs 0 5)))) 0 (upR ((upC cs 0 (upR (cs 0) 5 (if rroom 6 (cs 0 8 5) then (cs 0 8 5) + 1 else (cs 0 8 5)) (if rroom 6 (cs 0 8 5) then upd (cs 0 5) ((cs 0 8 5)).toNatClampNeg 0 else (cs 0 5)))) 0) 6 (if rroom 6 ((upC cs 0 (upR (cs 0) 5 (if rroom 6 (cs 0 8 5) then (cs 0 8 5) + 1 else (cs 0 8 5)) (if rroom 6 (cs 0 8 5) then upd (cs 0 5) ((cs 0 8 5)).toNatClampNeg 0 else (cs 0 5)))) 0 8 6) then ((upC cs 0 (upR (cs 0) 5 (if rroom 6 (cs 0 8 5) then (cs 0 8 5) + 1 else (cs 0 8 5)) (if rroom 6 (cs 0 8 5) then upd (cs 0 5) ((cs 0 8 5)).toNatClampNeg 0 else (cs 0 5)))) 0 8 6) + 1 else ((upC cs 0 (upR (cs 0) 5 (if rroom 6 (cs 0 8 5) then (cs 0 8 5) + 1 else (cs 0 8 5)) (if rroom 6 (cs 0 8 5) then upd (cs 0 5) ((cs 0 8 5)).toNatClampNeg 0 else (cs 0 5)))) 0 8 6)) (if rroom 6 ((upC cs 0 (upR (cs 0) 5 (if rroom 6 (cs 0 8 5) then (cs 0 8 5) + 1 else (cs 0 8 5)) (if rroom 6 (cs 0 8 5) then upd (cs 0 5) ((cs 0 8 5)).toNatClampNeg 0 else (cs 0 5)))) 0 8 6) then upd ((upC cs 0 (upR (cs 0) 5 (if rroom 6 (cs 0 8 5) then (cs 0 8 5) + 1 else (cs 0 8 5)) (if rroom 6 (cs 0 8 5) then upd (cs 0 5) ((cs 0 8 5)).toNatClampNeg 0 else (cs 0 5)))) 0 6) (((upC cs 0 (upR (cs 0) 5 (if rroom 6 (cs 0 8 5) then (cs 0 8 5) + 1 else (cs 0 8 5)) (if rroom 6 (cs 0 8 5) then upd (cs 0 5) ((cs 0 8 5)).toNatClampNeg 0 else (cs 0 5)))) 0 8 6)).toNatClampNeg 0 else ((upC cs 0 (upR (cs 0) 5 (if rroom 6 (cs 0 8 5) then (cs 0 8 5) + 1 else (cs 0 8 5)) (if rroom 6 (cs 0 8 5) then upd (cs 0 5) ((cs 0 8 5)).toNatClampNeg 0 else (cs 0 5)))) 0 6)))) 0 7)))) 0) 4 (if rroom 6 ((upC (upC (upC cs 0 (upR (cs 0) 5 (if rroom 6 (cs 0 8 5) then (cs 0 8 5) + 1 else (cs 0 8 5)) (if rroom 6 (cs 0 8 5) then upd (cs 0 5) ((cs 0 8 5)).toNatClampNeg 0 else (cs 0 5)))) 0 (upR ((upC cs 0 (upR (cs 0) 5 (if rroom 6 (cs 0 8 5) then (cs 0 8 5) + 1 else (cs 0 8 5)) (if rroom 6 (cs 0 8 5) then upd (cs 0 5) ((cs 0 8 5)).toNatClampNeg 0 else (cs 0 5)))) 0) 6 (if rroom 6 ((upC cs 0 (upR (cs 0) 5 (if rroom 6 (cs 0 8 5) then (cs 0 8 5) + 1 else (cs 0 8 5)) (if rroom 6 (cs 0 8 5) then upd (cs 0 5) ((cs 0 8 5)).toNatClampNeg 0 else (cs 0 5)))) 0 8 6) then ((upC cs 0 (upR (cs 0) 5 (if rroom 6 (cs 0 8 5) then (cs 0 8 5) + 1 else (cs 0 8 5)) (if rroom 6 (cs 0 8 5) then upd (cs 0 5) ((cs 0 8 5)).toNatClampNeg 0 else (cs 0 5)))) 0 8 6) + 1 else ((upC cs 0 (upR (cs 0) 5 (if rroom 6 (cs 0 8 5) then (cs 0 8 5) + 1 else (cs 0 8 5)) (if rroom 6 (cs 0 8 5) then upd (cs 0 5) ((cs 0 8 5)).toNatClampNeg 0 else (cs 0 5)))) 0 8 6)) (if rroom 6 ((upC cs 0 (upR (cs 0) 5 (if rroom 6 (cs 0 8 5) then (cs 0 8 5) + 1 else (cs 0 8 5)) (if rroom 6 (cs 0 8 5) then upd (cs 0 5) ((cs 0 8 5)).toNatClampNeg 0 else (cs 0 5)))) 0 8 6) then upd ((upC cs 0 (upR (cs 0) 5 (if rroom 6 (cs 0 8 5) then (cs 0 8 5) + 1 else (cs 0 8 5)) (if rroom 6 (cs 0 8 5) then upd (cs 0 5) ((cs 0 8 5)).toNatClampNeg 0 else (cs 0 5)))) 0 6) (((upC cs 0 (upR (cs 0) 5 (if rroom 6 (cs 0 8 5) then (cs 0 8 5) + 1 else (cs 0 8 5)) (if rroom 6 (cs 0 8 5) then upd (cs 0 5) ((cs 0 8 5)).toNatClampNeg 0 else (cs 0 5)))) 0 8 6)).toNatClampNeg 0 else ((upC cs 0 (upR (cs 0) 5 (if rroom 6 (cs 0 8 5) then (cs 0 8 5) + 1 else (cs 0 8 5)) (if rroom 6 (cs 0 8 5) then upd (cs 0 5) ((cs 0 8 5)).toNatClampNeg 0 else (cs 0 5)))) 0 6)))) 0 (upR ((upC (upC cs 0 (upR (cs 0) 5 (if rroom 6 (cs 0 8 5) then (cs 0 8 5) + 1 else (cs 0 8 5)) (if rroom 6 (cs 0 8 5) then upd (cs 0 5) ((cs 0 8 5)).toNatClampNeg 0 else (cs 0 5)))) 0 (upR ((upC cs 0 (upR (cs 0) 5 (if rroom 6 (cs 0 8 5) then (cs 0 8 5) + 1 else (cs 0 8 5)) (if rroom 6 (cs 0 8 5) then upd (cs 0 5) ((cs 0 8 5)).toNatClampNeg 0 else (cs 0 5)))) 0) 6 (if rroom 6 ((upC cs 0 (upR (cs 0) 5 (if rroom 6 (cs 0 8 5) then (cs 0 8 5) + 1 else (cs 0 8 5)) (if rroom 6 (cs 0 8 5) then upd (cs 0 5) ((cs 0 8 5)).toNatClampNeg 0 else (cs 0 5)))) 0 8 6) then ((upC cs 0 (upR (cs 0) 5 (if rroom 6 (cs 0 8 5) then (cs 0 8 5) + 1 else (cs 0 8 5)) (if rroom 6 (cs 0 8 5) then upd (cs 0 5) ((cs 0 8 5)).toNatClampNeg 0 else (cs 0 5)))) 0 8 6) + 1 else ((upC cs 0 (upR (cs 0) 5 (if rroom 6 (cs 0 8 5) then (cs 0 8 5) + 1 else (cs 0 8 5)) (if rroom 6 (cs 0 8 5) then upd (cs 0 5) ((cs 0 8 5)).toNatClampNeg 0 else (cs 0 5)))) 0 8 6)) (if rroom 6 ((upC cs 0 (upR (cs 0) 5 (if rroom 6 (cs 0 8 5) then (cs 0 8 5) + 1 else (cs 0 8 5)) (if rroom 6 (cs 0 8 5) then upd (cs 0 5) ((cs 0 8 5)).toNatClampNeg 0 else (cs 0 5)))) 0 8 6) then upd ((upC cs 0 (upR (cs 0) 5 (if rroom 6 (cs 0 8 5) then (cs 0 8 5) + 1 else (cs 0 8 5)) (if rroom 6 (cs 0 8 5) then upd (cs 0 5) ((cs 0 8 5)).toNatClampNeg 0 else (cs 0 5)))) 0 6) (((upC cs 0 (upR (cs 0) 5 (if rroom 6 (cs 0 8 5) then (cs 0 8 5) + 1 else (cs 0 8 5)) (if rroom 6 (cs 0 8 5) then upd (cs 0 5) ((cs 0 8 5)).toNatClampNeg 0 else (cs 0 5)))) 0 8 6)).toNatClampNeg 0 else ((upC cs 0 (upR (cs 0) 5 (if rroom 6 (cs 0 8 5) then (cs 0 8 5) + 1 else (cs 0 8 5)) (if rroom 6 (cs 0 8 5) then upd (cs 0 5) ((cs 0 8 5)).toNatClampNeg 0 else (cs 0 5)))) 0 6)))) 0) 7 (if rroom 6 ((upC (upC cs 0 (upR (cs 0) 5 (if rroom 6 (cs 0 8 5) then (cs 0 8 5) + 1 else (cs 0 8 5)) (if rroom 6 (cs 0 8 5) then upd (cs 0 5) ((cs 0 8 5)).toNatClampNeg 0 else (cs 0 5)))) 0 (upR ((upC cs 0 (upR (cs 0) 5 (if rroom 6 (cs 0 8 5) then (cs 0 8 5) + 1 else (cs 0 8 5)) (if rroom 6 (cs 0 8 5) then upd (cs 0 5) ((cs 0 8 5)).toNatClampNeg 0 else (cs 0 5)))) 0) 6 (if rroom 6 ((upC cs 0 (upR (cs 0) 5 (if rroom 6 (cs 0 8 5) then (cs 0 8 5) + 1 else (cs 0 8 5)) (if rroom 6 (cs 0 8 5) then upd (cs 0 5) ((cs 0 8 5)).toNatClampNeg 0 else (cs 0 5)))) 0 8 6) then ((upC cs 0 (upR (cs 0) 5 (if rroom 6 (cs 0 8 5) then (cs 0 8 5) + 1 else (cs 0 8 5)) (if rroom 6 (cs 0 8 5) then upd (cs 0 5) ((cs 0 8 5)).toNatClampNeg 0 else (cs 0 5)))) 0 8 6) + 1 else ((upC cs 0 (upR (cs 0) 5 (if rroom 6 (cs 0 8 5) then (cs 0 8 5) + 1 else (cs 0 8 5)) (if rroom 6 (cs 0 8 5) then upd (cs 0 5) ((cs 0 8 5)).toNatClampNeg 0 else (cs 0 5)))) 0 8 6)) (if rroom 6 ((upC cs 0 (upR (cs 0) 5 (if rroom 6 (cs 0 8 5) then (cs 0 8 5) + 1 else (cs 0 8 5)) (if rroom 6 (cs 0 8 5) then upd (cs 0 5) ((cs 0 8 5)).toNatClampNeg 0 else (cs 0 5)))) 0 8 6) then upd ((upC cs 0 (upR (cs 0) 5 (if rroom 6 (cs 0 8 5) then (cs 0 8 5) + 1 else (cs 0 8 5)) (if rroom 6 (cs 0 8 5) then upd (cs 0 5) ((cs 0 8 5)).toNatClampNeg 0 else (cs 0 5)))) 0 6) (((upC cs 0 (upR (cs 0) 5 (if rroom 6 (cs 0 8 5) then (cs 0 8 5) + 1 else (cs 0 8 5)) (if rroom 6 (cs 0 8 5) then upd (cs 0 5) ((cs 0 8 5)).toNatClampNeg 0 else (cs 0 5)))) 0 8 6)).toNatClampNeg 0 else ((upC cs 0 (upR (cs 0) 5 (if rroom 6 (cs 0 8 5) then (cs 0 8 5) + 1 else (cs 0 8 5)) (if rroom 6 (cs 0 8 5) then upd (cs 0 5) ((cs 0 8 5)).toNatClampNeg 0 else (cs 0 5)))) 0 6)))) 0 8 7) then ((upC (upC cs 0 (upR (cs 0) 5 (if rroom 6 (cs 0 8 5) then (cs 0 8 5) + 1 else (cs 0 8 5)) (if rroom 6 (cs 0 8 5) then upd (cs 0 5) ((cs 0 8 5)).toNatClampNeg 0 else (cs 0 5)))) 0 (upR ((upC cs 0 (upR (cs 0) 5 (if rroom 6 (cs 0 8 5) then (cs 0 8 5) + 1 else (cs 0 8 5)) (if rroom 6 (cs 0 8 5) then upd (cs 0 5) ((cs 0 8 5)).toNatClampNeg 0 else (cs 0 5)))) 0) 6 (if rroom 6 ((upC cs 0 (upR (cs 0) 5 (if rroom 6 (cs 0 8 5) then (cs 0 8 5) + 1 else (cs 0 8 5)) (if rroom 6 (cs 0 8 5) then upd (cs 0 5) ((cs 0 8 5)).toNatClampNeg 0 else (cs 0 5)))) 0 8 6) then ((upC cs 0 (upR (cs 0) 5 (if rroom 6 (cs 0 8 5) then (cs 0 8 5) + 1 else (cs 0 8 5)) (if rroom 6 (cs 0 8 5) then upd (cs 0 5) ((cs 0 8 5)).toNatClampNeg 0 else (cs 0 5)))) 0 8 6) + 1 else ((upC cs 0 (upR (cs 0) 5 (if rroom 6 (cs 0 8 5) then (cs 0 8 5) + 1 else (cs 0 8 5)) (if rroom 6 (cs 0 8 5) then upd (cs 0 5) ((cs 0 8 5)).toNatClampNeg 0 else (cs 0 5)))) 0 8 6)) (if rroom 6 ((upC cs 0 (upR (cs 0) 5 (if rroom 6 (cs 0 8 5) then (cs 0 8 5) + 1 else (cs 0 8 5)) (if rroom 6 (cs 0 8 5) then upd (cs 0 5) ((cs 0 8 5)).toNatClampNeg 0 else (cs 0 5)))) 0 8 6) then upd ((upC cs 0 (upR (cs 0) 5 (if rroom 6 (cs 0 8 5) then (cs 0 8 5) + 1 else (cs 0 8 5)) (if rroom 6 (cs 0 8 5) then upd (cs 0 5) ((cs 0 8 5)).toNatClampNeg 0 else (cs 0 5)))) 0 6) (((upC cs 0 (upR (cs 0) 5 (if rroom 6 (cs 0 8 5) then (cs 0 8 5) + 1 else (cs 0 8 5)) (if rroom 6 (cs 0 8 5) then upd (cs 0 5) ((cs 0 8 5)).toNatClampNeg 0 else (cs 0 5)))) 0 8 6)).toNatClampNeg 0 else ((upC cs 0 (upR (cs 0) 5 (if rroom 6 (cs 0 8 5) then (cs 0 8 5) + 1 else (cs 0 8 5)) (if rroom 6 (cs 0 8 5) then upd (cs 0 5) ((cs 0 8 5)).toNatClampNeg 0 else (cs 0 5)))) 0 6)))) 0 8 7) + 1 else ((upC (upC cs 0 (upR (cs 0) 5 (if rroom 6 (cs 0 8 5) then (cs 0 8 5) + 1 else (cs 0 8 5)) (if rroom 6 (cs 0 8 5) then upd (cs 0 5) ((cs 0 8 5)).toNatClampNeg 0 else (cs 0 5)))) 0 (upR ((upC cs 0 (upR (cs 0) 5 (if rroom 6 (cs 0 8 5) then (cs 0 8 5) + 1 else (cs 0 8 5)) (if rroom 6 (cs 0 8 5) then upd (cs 0 5) ((cs 0 8 5)).toNatClampNeg 0 else (cs 0 5)))) 0) 6 (if rroom 6 ((upC cs 0 (upR (cs 0) 5 (if rroom 6 (cs 0 8 5) then (cs 0 8 5) + 1 else (cs 0 8 5)) (if rroom 6 (cs 0 8 5) then upd (cs 0 5) ((cs 0 8 5)).toNatClampNeg 0 else (cs 0 5)))) 0 8 6) then ((upC cs 0 (upR (cs 0) 5 (if rroom 6 (cs 0 8 5) then (cs 0 8 5) + 1 else (cs 0 8 5)) (if rroom 6 (cs 0 8 5) then upd (cs 0 5) ((cs 0 8 5)).toNatClampNeg 0 else (cs 0 5)))) 0 8 6) + 1 else ((upC cs 0 (upR (cs 0) 5 (if rroom 6 (cs 0 8 5) then (cs 0 8 5) + 1 else (cs 0 8 5)) (if rroom 6 (cs 0 8 5) then upd (cs 0 5) ((cs 0 8 5)).toNatClampNeg 0 else (cs 0 5)))) 0 8 6)) (if rroom 6 ((upC cs 0 (upR (cs 0) 5 (if rroom 6 (cs 0 8 5) then (cs 0 8 5) + 1 else (cs 0 8 5)) (if rroom 6 (cs 0 8 5) then upd (cs 0 5) ((cs 0 8 5)).toNatClampNeg 0 else (cs 0 5)))) 0 8 6) then upd ((upC cs 0 (upR (cs 0) 5 (if rroom 6 (cs 0 8 5) then (cs 0 8 5) + 1 else (cs 0 8 5)) (if rroom 6 (cs 0 8 5) then upd (cs 0 5) ((cs 0 8 5)).toNatClampNeg 0 else (cs 0 5)))) 0 6) (((upC cs 0 (upR (cs 0) 5 (if rroom 6 (cs 0 8 5) then (cs 0 8 5) + 1 else (cs 0 8 5)) (if rroom 6 (cs 0 8 5) then upd (cs 0 5) ((cs 0 8 5)).toNatClampNeg 0 else (cs 0 5)))) 0 8 6)).toNatClampNeg 0 else ((upC cs 0 (upR (cs 0) 5 (if rroom 6 (cs 0 8 5) then (cs 0 8 5) + 1 else (cs 0 8 5)) (if rroom 6 (cs 0 8 5) then upd (cs 0 5) ((cs 0 8 5)).toNatClampNeg 0 else (cs 0 5)))) 0 6)))) 0 8 7)) (if rroom 6 ((upC (upC cs 0 (upR (cs 0) 5 (if rroom 6 (cs 0 8 5) then (cs 0 8 5) + 1 else (cs 0 8 5)) (if rroom 6 (cs 0 8 5) then upd (cs 0 5) ((cs 0 8 5)).toNatClampNeg 0 else (cs 0 5)))) 0 (upR ((upC cs 0 (upR (cs 0) 5 (if rroom 6 (cs 0 8 5) then (cs 0 8 5) + 1 else (cs 0 8 5)) (if rroom 6 (cs 0 8 5) then upd (cs 0 5) ((cs 0 8 5)).toNatClampNeg 0 else (cs 0 5)))) 0) 6 (if rroom 6 ((upC cs 0 (upR (cs 0) 5 (if rroom 6 (cs 0 8 5) then (cs 0 8 5) + 1 else (cs 0 8 5)) (if rroom 6 (cs 0 8 5) then upd (cs 0 5) ((cs 0 8 5)).toNatClampNeg 0 else (cs 0 5)))) 0 8 6) then ((upC cs 0 (upR (cs 0) 5 (if rroom 6 (cs 0 8 5) then (cs 0 8 5) + 1 else (cs 0 8 5)) (if rroom 6 (cs 0 8 5) then upd (cs 0 5) ((cs 0 8 5)).toNatClampNeg 0 else (cs 0 5)))) 0 8 6) + 1 else ((upC cs 0 (upR (cs 0) 5 (if rroom 6 (cs 0 8 5) then (cs 0 8 5) + 1 else (cs 0 8 5)) (if rroom 6 (cs 0 8 5) then upd (cs 0 5) ((cs 0 8 5)).toNatClampNeg 0 else (cs 0 5)))) 0 8 6)) (if rroom 6 ((upC cs 0 (upR (cs 0) 5 (if rroom 6 (cs 0 8 5) then (cs 0 8 5) + 1 else (cs 0 8 5)) (if rroom 6 (cs 0 8 5) then upd (cs 0 5) ((cs 0 8 5)).toNatClampNeg 0 else (cs 0 5)))) 0 8 6) then upd ((upC cs 0 (upR (cs 0) 5 (if rroom 6 (cs 0 8 5) then (cs 0 8 5) + 1 else (cs 0 8 5)) (if rroom 6 (cs 0 8 5) then upd (cs 0 5) ((cs 0 8 5)).toNatClampNeg 0 else (cs 0 5)))) 0 6) (((upC cs 0 (upR (cs 0) 5 (if rroom 6 (cs 0 8 5) then (cs 0 8 5) + 1 else (cs 0 8 5)) (if rroom 6 (cs 0 8 5) then upd (cs 0 5) ((cs 0 8 5)).toNatClampNeg 0 else (cs 0 5)))) 0 8 6)).toNatClampNeg 0 else ((upC cs 0 (upR (cs 0) 5 (if rroom 6 (cs 0 8 5) then (cs 0 8 5) + 1 else (cs 0 8 5)) (if rroom 6 (cs 0 8 5) then upd (cs 0 5) ((cs 0 8 5)).toNatClampNeg 0 else (cs 0 5)))) 0 6)))) 0 8 7) then upd ((upC (upC cs 0 (upR (cs 0) 5 (if rroom 6 (cs 0 8 5) then (cs 0 8 5) + 1 else (cs 0 8 5)) (if rroom 6 (cs 0 8 5) then upd (cs 0 5) ((cs 0 8 5)).toNatClampNeg 0 else (cs 0 5)))) 0 (upR ((upC cs 0 (upR (cs 0) 5 (if rroom 6 (cs 0 8 5) then (cs 0 8 5) + 1 else (cs 0 8 5)) (if rroom 6 (cs 0 8 5) then upd (cs 0 5) ((cs 0 8 5)).toNatClampNeg 0 else (cs 0 5)))) 0) 6 (if rroom 6 ((upC cs 0 (upR (cs 0) 5 (if rroom 6 (cs 0 8 5) then (cs 0 8 5) + 1 else (cs 0 8 5)) (if rroom 6 (cs 0 8 5) then upd (cs 0 5) ((cs 0 8 5)).toNatClampNeg 0 else (cs 0 5)))) 0 8 6) then ((upC cs 0 (upR (cs 0) 5 (if rroom 6 (cs 0 8 5) then (cs 0 8 5) + 1 else (cs 0 8 5)) (if rroom 6 (cs 0 8 5) then upd (cs 0 5) ((cs 0 8 5)).toNatClampNeg 0 else (cs 0 5)))) 0 8 6) + 1 else ((upC cs 0 (upR (cs 0) 5 (if rroom 6 (cs 0 8 5) then (cs 0 8 5) + 1 else (cs 0 8 5)) (if rroom 6 (cs 0 8 5) then upd (cs 0 5) ((cs 0 8 5)).toNatClampNeg 0 else (cs 0 5)))) 0 8 6)) (if rroom 6 ((upC cs 0 (upR (cs 0) 5 (if rroom 6 (cs 0 8 5) then (cs 0 8 5) + 1 else (cs 0 8 5)) (if rroom 6 (cs 0 8 5) then upd (cs 0 5) ((cs 0 8 5)).toNatClampNeg 0 else (cs 0 5)))) 0 8 6) then upd ((upC cs 0 (upR (cs 0) 5 (if rroom 6 (cs 0 8 5) then (cs 0 8 5) + 1 else (cs 0 8 5)) (if rroom 6 (cs 0 8 5) then upd (cs 0 5) ((cs 0 8 5)).toNatClampNeg 0 else (cs 0 5)))) 0 6) (((upC cs 0 (upR (cs 0) 5 (if rroom 6 (cs 0 8 5) then (cs 0 8 5) + 1 else (cs 0 8 5)) (if rroom 6 (cs 0 8 5) then upd (cs 0 5) ((cs 0 8 5)).toNatClampNeg 0 else (cs 0 5)))) 0 8 6)).toNatClampNeg 0 else ((upC cs 0 (upR (cs 0) 5 (if rroom 6 (cs 0 8 5) then (cs 0 8 5) + 1 else (cs 0 8 5)) (if rroom 6 (cs 0 8 5) then upd (cs 0 5) ((cs 0 8 5)).toNatClampNeg 0 else (cs 0 5)))) 0 6)))) 0 7) (((upC (upC cs 0 (upR (cs 0) 5 (if rroom 6 (cs 0 8 5) then (cs 0 8 5) + 1 else (cs 0 8 5)) (if rroom 6 (cs 0 8 5) then upd (cs 0 5) ((cs 0 8 5)).toNatClampNeg 0 else (cs 0 5)))) 0 (upR ((upC cs 0 (upR (cs 0) 5 (if rroom 6 (cs 0 8 5) then (cs 0 8 5) + 1 else (cs 0 8 5)) (if rroom 6 (cs 0 8 5) then upd (cs 0 5) ((cs 0 8 5)).toNatClampNeg 0 else (cs 0 5)))) 0) 6 (if rroom 6 ((upC cs 0 (upR (cs 0) 5 (if rroom 6 (cs 0 8 5) then (cs 0 8 5) + 1 else (cs 0 8 5)) (if rroom 6 (cs 0 8 5) then upd (cs 0 5) ((cs 0 8 5)).toNatClampNeg 0 else (cs 0 5)))) 0 8 6) then ((upC cs 0 (upR (cs 0) 5 (if rroom 6 (cs 0 8 5) then (cs 0 8 5) + 1 else (cs 0 8 5)) (if rroom 6 (cs 0 8 5) then upd (cs 0 5) ((cs 0 8 5)).toNatClampNeg 0 else (cs 0 5)))) 0 8 6) + 1 else ((upC cs 0 (upR (cs 0) 5 (if rroom 6 (cs 0 8 5) then (cs 0 8 5) + 1 else (cs 0 8 5)) (if rroom 6 (cs 0 8 5) then upd (cs 0 5) ((cs 0 8 5)).toNatClampNeg 0 else (cs 0 5)))) 0 8 6)) (if rroom 6 ((upC cs 0 (upR (cs 0) 5 (if rroom 6 (cs 0 8 5) then (cs 0 8 5) + 1 else (cs 0 8 5)) (if rroom 6 (cs 0 8 5) then upd (cs 0 5) ((cs 0 8 5)).toNatClampNeg 0 else (cs 0 5)))) 0 8 6) then upd ((upC cs 0 (upR (cs 0) 5 (if rroom 6 (cs 0 8 5) then (cs 0 8 5) + 1 else (cs 0 8 5)) (if rroom 6 (cs 0 8 5) then upd (cs 0 5) ((cs 0 8 5)).toNatClampNeg 0 else (cs 0 5)))) 0 6) (((upC cs 0 (upR (cs 0) 5 (if rroom 6 (cs 0 8 5) then (cs 0 8 5) + 1 else (cs 0 8 5)) (if rroom 6 (cs 0 8 5) then upd (cs 0 5) ((cs 0 8 5)).toNatClampNeg 0 else (cs 0 5)))) 0 8 6)).toNatClampNeg 0 else ((upC cs 0 (upR (cs 0) 5 (if rroom 6 (cs 0 8 5) then (cs 0 8 5) + 1 else (cs 0 8 5)) (if rroom 6 (cs 0 8 5) then upd (cs 0 5) ((cs 0 8 5)).toNatClampNeg 0 else (cs 0 5)))) 0 6)))) 0 8 7)).toNatClampNeg 0 else ((upC (upC cs 0 (upR (cs 0) 5 (if rroom 6 (cs 0 8 5) then (cs 0 8 5) + 1 else (cs 0 8 5)) (if rroom 6 (cs 0 8 5) then upd (cs 0 5) ((cs 0 8 5)).toNatClampNeg 0 else (cs 0 5)))) 0 (upR ((upC cs 0 (upR (cs 0) 5 (if rroom 6 (cs 0 8 5) then (cs 0 8 5) + 1 else (cs 0 8 5)) (if rroom 6 (cs 0 8 5) then upd (cs 0 5) ((cs 0 8 5)).toNatClampNeg 0 else (cs 0 5)))) 0) 6 (if rroom 6 ((upC cs 0 (upR (cs 0) 5 (if rroom 6 (cs 0 8 5) then (cs 0 8 5) + 1 else (cs 0 8 5)) (if rroom 6 (cs 0 8 5) then upd (cs 0 5) ((cs 0 8 5)).toNatClampNeg 0 else (cs 0 5)))) 0 8 6) then ((upC cs 0 (upR (cs 0) 5 (if rroom 6 (cs 0 8 5) then (cs 0 8 5) + 1 else (cs 0 8 5)) (if rroom 6 (cs 0 8 5) then upd (cs 0 5) ((cs 0 8 5)).toNatClampNeg 0 else (cs 0 5)))) 0 8 6) + 1 else ((upC cs 0 (upR (cs 0) 5 (if rroom 6 (cs 0 8 5) then (cs 0 8 5) + 1 else (cs 0 8 5)) (if rroom 6 (cs 0 8 5) then upd (cs 0 5) ((cs 0 8 5)).toNatClampNeg 0 else (cs 0 5)))) 0 8 6)) (if rroom 6 ((upC cs 0 (upR (cs 0) 5 (if rroom 6 (cs 0 8 5) then (cs 0 8 5) + 1 else (cs 0 8 5)) (if rroom 6 (cs 0 8 5) then upd (cs 0 5) ((cs 0 8 5)).toNatClampNeg 0 else (cs 0 5)))) 0 8 6) then upd ((upC cs 0 (upR (cs 0) 5 (if rroom 6 (cs 0 8 5) then (cs 0 8 5) + 1 else (cs 0 8 5)) (if rroom 6 (cs 0 8 5) then upd (cs 0 5) ((cs 0 8 5)).toNatClampNeg 0 else (cs 0 5)))) 0 6) (((upC cs 0 (upR (cs 0) 5 (if rroom 6 (cs 0 8 5) then (cs 0 8 5) + 1 else (cs 0 8 5)) (if rroom 6 (cs 0 8 5) then upd (cs 0 5) ((cs 0 8 5)).toNatClampNeg 0 else (cs 0 5)))) 0 8 6)).toNatClampNeg 0 else ((upC cs 0 (upR (cs 0) 5 (if rroom 6 (cs 0 8 5) then (cs 0 8 5) + 1 else (cs 0 8 5)) (if rroom 6 (cs 0 8 5) then upd (cs 0 5) ((cs 0 8 5)).toNatClampNeg 0 else (cs 0 5)))) 0 6)))) 0 7)))) 0 8 4) then ((upC (upC (upC cs 0 (upR (cs 0) 5 (if rroom 6 (cs 0 8 5) then (cs 0 8 5) + 1 else (cs 0 8 5)) (if rroom 6 (cs 0 8 5) then upd (cs 0 5) ((cs 0 8 5)).toNatClampNeg 0 else (cs 0 5)))) 0 (upR ((upC cs 0 (upR (cs 0) 5 (if rroom 6 (cs 0 8 5) then (cs 0 8 5) + 1 else (cs 0 8 5)) (if rroom 6 (cs 0 8 5) then upd (cs 0 5) ((cs 0 8 5)).toNatClampNeg 0 else (cs 0 5)))) 0) 6 (if rroom 6 ((upC cs 0 (upR (cs 0) 5 (if rroom 6 (cs 0 8 5) then (cs 0 8 5) + 1 else (cs 0 8 5)) (if rroom 6 (cs 0 8 5) then upd (cs 0 5) ((cs 0 8 5)).toNatClampNeg 0 else (cs 0 5)))) 0 8 6) then ((upC cs 0 (upR (cs 0) 5 (if rroom 6 (cs 0 8 5) then (cs 0 8 5) + 1 else (cs 0 8 5)) (if rroom 6 (cs 0 8 5) then upd (cs 0 5) ((cs 0 8 5)).toNatClampNeg 0 else (cs 0 5)))) 0 8 6) + 1 else ((upC cs 0 (upR (cs 0) 5 (if rroom 6 (cs 0 8 5) then (cs 0 8 5) + 1 else (cs 0 8 5)) (if rroom 6 (cs 0 8 5) then upd (cs 0 5) ((cs 0 8 5)).toNatClampNeg 0 else (cs 0 5)))) 0 8 6)) (if rroom 6 ((upC cs 0 (upR (cs 0) 5 (if rroom 6 (cs 0 8 5) then (cs 0 8 5) + 1 else (cs 0 8 5)) (if rroom 6 (cs 0 8 5) then upd (cs 0 5) ((cs 0 8 5)).toNatClampNeg 0 else (cs 0 5)))) 0 8 6) then upd ((upC cs 0 (upR (cs 0) 5 (if rroom 6 (cs 0 8 5) then (cs 0 8 5) + 1 else (cs 0 8 5)) (if rroom 6 (cs 0 8 5) then upd (cs 0 5) ((cs 0 8 5)).toNatClampNeg 0 else (cs 0 5)))) 0 6) (((upC cs 0 (upR (cs 0) 5 (if rroom 6 (cs 0 8 5) then (cs 0 8 5) + 1 else (cs 0 8 5)) (if rroom 6 (cs 0 8 5) then upd (cs 0 5) ((cs 0 8 5)).toNatClampNeg 0 else (cs 0 5)))) 0 8 6)).toNatClampNeg 0 else ((upC cs 0 (upR (cs 0) 5 (if rroom 6 (cs 0 8 5) then (cs 0 8 5) + 1 else (cs 0 8 5)) (if rroom 6 (cs 0 8 5) then upd (cs 0 5) ((cs 0 8 5)).toNatClampNeg 0 else (cs 0 5)))) 0 6)))) 0 (upR ((upC (upC cs 0 (upR (cs 0) 5 (if rroom 6 (cs 0 8 5) then (cs 0 8 5) + 1 else (cs 0 8 5)) (if rroom 6 (cs 0 8 5) then upd (cs 0 5) ((cs 0 8 5)).toNatClampNeg 0 else (cs 0 5)))) 0 (upR ((upC cs 0 (upR (cs 0) 5 (if rroom 6 (cs 0 8 5) then (cs 0 8 5) + 1 else (cs 0 8 5)) (if rroom 6 (cs 0 8 5) then upd (cs 0 5) ((cs 0 8 5)).toNatClampNeg 0 else (cs 0 5)))) 0) 6 (if rroom 6 ((upC cs 0 (upR (cs 0) 5 (if rroom 6 (cs 0 8 5) then (cs 0 8 5) + 1 else (cs 0 8 5)) (if rroom 6 (cs 0 8 5) then upd (cs 0 5) ((cs 0 8 5)).toNatClampNeg 0 else (cs 0 5)))) 0 8 6) then ((upC cs 0 (upR (cs 0) 5 (if rroom 6 (cs 0 8 5) then (cs 0 8 5) + 1 else (cs 0 8 5)) (if rroom 6 (cs 0 8 5) then upd (cs 0 5) ((cs 0 8 5)).toNatClampNeg 0 else (cs 0 5)))) 0 8 6) + 1 else ((upC cs 0 (upR (cs 0) 5 (if rroom 6 (cs 0 8 5) then (cs 0 8 5) + 1 else (cs 0 8 5)) (if rroom 6 (cs 0 8 5) then upd (cs 0 5) ((cs 0 8 5)).toNatClampNeg 0 else (cs 0 5)))) 0 8 6)) (if rroom 6 ((upC cs 0 (upR (cs 0) 5 (if rroom 6 (cs 0 8 5) then (cs 0 8 5) + 1 else (cs 0 8 5)) (if rroom 6 (cs 0 8 5) then upd (cs 0 5) ((cs 0 8 5)).toNatClampNeg 0 else (cs 0 5)))) 0 8 6) then upd ((upC cs 0 (upR (cs 0) 5 (if rroom 6 (cs 0 8 5) then (cs 0 8 5) + 1 else (cs 0 8 5)) (if rroom 6 (cs 0 8 5) then upd (cs 0 5) ((cs 0 8 5)).toNatClampNeg 0 else (cs 0 5)))) 0 6) (((upC cs 0 (upR (cs 0) 5 (if rroom 6 (cs 0 8 5) then (cs 0 8 5) + 1 else (cs 0 8 5)) (if rroom 6 (cs 0 8 5) then upd (cs 0 5) ((cs 0 8 5)).toNatClampNeg 0 else (cs 0 5)))) 0 8 6)).toNatClampNeg 0 else ((upC cs 0 (upR (cs 0) 5 (if rroom 6 (cs 0 8 5) then (cs 0 8 5) + 1 else (cs 0 8 5)) (if rroom 6 (cs 0 8 5) then upd (cs 0 5) ((cs 0 8 5)).toNatClampNeg 0 else (cs 0 5)))) 0 6)))) 0) 7 (if rroom 6 ((upC (upC cs 0 (upR (cs 0) 5 (if rroom 6 (cs 0 8 5) then (cs 0 8 5) + 1 else (cs 0 8 5)) (if rroom 6 (cs 0 8 5) then upd (cs 0 5) ((cs 0 8 5)).toNatClampNeg 0 else (cs 0 5)))) 0 (upR ((upC cs 0 (upR (cs 0) 5 (if rroom 6 (cs 0 8 5) then (cs 0 8 5) + 1 else (cs 0 8 5)) (if rroom 6 (cs 0 8 5) then upd (cs 0 5) ((cs 0 8 5)).toNatClampNeg 0 else (cs 0 5)))) 0) 6 (if rroom 6 ((upC cs 0 (upR (cs 0) 5 (if rroom 6 (cs 0 8 5) then (cs 0 8 5) + 1 else (cs 0 8 5)) (if rroom 6 (cs 0 8 5) then upd (cs 0 5) ((cs 0 8 5)).toNatClampNeg 0 else (cs 0 5)))) 0 8 6) then ((upC cs 0 (upR (cs 0) 5 (if rroom 6 (cs 0 8 5) then (cs 0 8 5) + 1 else (cs 0 8 5)) (if rroom 6 (cs 0 8 5) then upd (cs 0 5) ((cs 0 8 5)).toNatClampNeg 0 else (cs 0 5)))) 0 8 6) + 1 else ((upC cs 0 (upR (cs 0) 5 (if rroom 6 (cs 0 8 5) then (cs 0 8 5) + 1 else (cs 0 8 5)) (if rroom 6 (cs 0 8 5) then upd (cs 0 5) ((cs 0 8 5)).toNatClampNeg 0 else (cs 0 5)))) 0 8 6)) (if rroom 6 ((upC cs 0 (upR (cs 0) 5 (if rroom 6 (cs 0 8 5) then (cs 0 8 5) + 1 else (cs 0 8 5)) (if rroom 6 (cs 0 8 5) then upd (cs 0 5) ((cs 0 8 5)).toNatClampNeg 0 else (cs 0 5)))) 0 8 6) then upd ((upC cs 0 (upR (cs 0) 5 (if rroom 6 (cs 0 8 5) then (cs 0 8 5) + 1 else (cs 0 8 5)) (if rroom 6 (cs 0 8 5) then upd (cs 0 5) ((cs 0 8 5)).toNatClampNeg 0 else (cs 0 5)))) 0 6) (((upC cs 0 (upR (cs 0) 5 (if rroom 6 (cs 0 8 5) then (cs 0 8 5) + 1 else (cs 0 8 5)) (if rroom 6 (cs 0 8 5) then upd (cs 0 5) ((cs 0 8 5)).toNatClampNeg 0 else (cs 0 5)))) 0 8 6)).toNatClampNeg 0 else ((upC cs 0 (upR (cs 0) 5 (if rroom 6 (cs 0 8 5) then (cs 0 8 5) + 1 else (cs 0 8 5)) (if rroom 6 (cs 0 8 5) then upd (cs 0 5) ((cs 0 8 5)).toNatClampNeg 0 else (cs 0 5)))) 0 6)))) 0 8 7) then ((upC (upC cs 0 (upR (cs 0) 5 (if rroom 6 (cs 0 8 5) then (cs 0 8 5) + 1 else (cs 0 8 5)) (if rroom 6 (cs 0 8 5) then upd (cs 0 5) ((cs 0 8 5)).toNatClampNeg 0 else (cs 0 5)))) 0 (upR ((upC cs 0 (upR (cs 0) 5 (if rroom 6 (cs 0 8 5) then (cs 0 8 5) + 1 else (cs 0 8 5)) (if rroom 6 (cs 0 8 5) then upd (cs 0 5) ((cs 0 8 5)).toNatClampNeg 0 else (cs 0 5)))) 0) 6 (if rroom 6 ((upC cs 0 (upR (cs 0) 5 (if rroom 6 (cs 0 8 5) then (cs 0 8 5) + 1 else (cs 0 8 5)) (if rroom 6 (cs 0 8 5) then upd (cs 0 5) ((cs 0 8 5)).toNatClampNeg 0 else (cs 0 5)))) 0 8 6) then ((upC cs 0 (upR (cs 0) 5 (if rroom 6 (cs 0 8 5) then (cs 0 8 5) + 1 else (cs 0 8 5)) (if rroom 6 (cs 0 8 5) then upd (cs 0 5) ((cs 0 8 5)).toNatClampNeg 0 else (cs 0 5)))) 0 8 6) + 1 else ((upC cs 0 (upR (cs 0) 5 (if rroom 6 (cs 0 8 5) then (cs 0 8 5) + 1 else (cs 0 8 5)) (if rroom 6 (cs 0 8 5) then upd (cs 0 5) ((cs 0 8 5)).toNatClampNeg 0 else (cs 0 5)))) 0 8 6)) (if rroom 6 ((upC cs 0 (upR (cs 0) 5 (if rroom 6 (cs 0 8 5) then (cs 0 8 5) + 1 else (cs 0 8 5)) (if rroom 6 (cs 0 8 5) then upd (cs 0 5) ((cs 0 8 5)).toNatClampNeg 0 else (cs 0 5)))) 0 8 6) then upd ((upC cs 0 (upR (cs 0) 5 (if rroom 6 (cs 0 8 5) then (cs 0 8 5) + 1 else (cs 0 8 5)) (if rroom 6 (cs 0 8 5) then upd (cs 0 5) ((cs 0 8 5)).toNatClampNeg 0 else (cs 0 5)))) 0 6) (((upC cs 0 (upR (cs 0) 5 (if rroom 6 (cs 0 8 5) then (cs 0 8 5) + 1 else (cs 0 8 5)) (if rroom 6 (cs 0 8 5) then upd (cs 0 5) ((cs 0 8 5)).toNatClampNeg 0 else (cs 0 5)))) 0 8 6)).toNatClampNeg 0 else ((upC cs 0 (upR (cs 0) 5 (if rroom 6 (cs 0 8 5) then (cs 0 8 5) + 1 else (cs 0 8 5)) (if rroom 6 (cs 0 8 5) then upd (cs 0 5) ((cs 0 8 5)).toNatClampNeg 0 else (cs 0 5)))) 0 6)))) 0 8 7) + 1 else ((upC (upC cs 0 (upR (cs 0) 5 (if rroom 6 (cs 0 8 5) then (cs 0 8 5) + 1 else (cs 0 8 5)) (if rroom 6 (cs 0 8 5) then upd (cs 0 5) ((cs 0 8 5)).toNatClampNeg 0 else (cs 0 5)))) 0 (upR ((upC cs 0 (upR (cs 0) 5 (if rroom 6 (cs 0 8 5) then (cs 0 8 5) + 1 else (cs 0 8 5)) (if rroom 6 (cs 0 8 5) then upd (cs 0 5) ((cs 0 8 5)).toNatClampNeg 0 else (cs 0 5)))) 0) 6 (if rroom 6 ((upC cs 0 (upR (cs 0) 5 (if rroom 6 (cs 0 8 5) then (cs 0 8 5) + 1 else (cs 0 8 5)) (if rroom 6 (cs 0 8 5) then upd (cs 0 5) ((cs 0 8 5)).toNatClampNeg 0 else (cs 0 5)))) 0 8 6) then ((upC cs 0 (upR (cs 0) 5 (if rroom 6 (cs 0 8 5) then (cs 0 8 5) + 1 else (cs 0 8 5)) (if rroom 6 (cs 0 8 5) then upd (cs 0 5) ((cs 0 8 5)).toNatClampNeg 0 else (cs 0 5)))) 0 8 6) + 1 else ((upC cs 0 (upR (cs 0) 5 (if rroom 6 (cs 0 8 5) then (cs 0 8 5) + 1 else (cs 0 8 5)) (if rroom 6 (cs 0 8 5) then upd (cs 0 5) ((cs 0 8 5)).toNatClampNeg 0 else (cs 0 5)))) 0 8 6)) (if rroom 6 ((upC cs 0 (upR (cs 0) 5 (if rroom 6 (cs 0 8 5) then (cs 0 8 5) + 1 else (cs 0 8 5)) (if rroom 6 (cs 0 8 5) then upd (cs 0 5) ((cs 0 8 5)).toNatClampNeg 0 else (cs 0 5)))) 0 8 6) then upd ((upC cs 0 (upR (cs 0) 5 (if rroom 6 (cs 0 8 5) then (cs 0 8 5) + 1 else (cs 0 8 5)) (if rroom 6 (cs 0 8 5) then upd (cs 0 5) ((cs 0 8 5)).toNatClampNeg 0 else (cs 0 5)))) 0 6) (((upC cs 0 (upR (cs 0) 5 (if rroom 6 (cs 0 8 5) then (cs 0 8 5) + 1 else (cs 0 8 5)) (if rroom 6 (cs 0 8 5) then upd (cs 0 5) ((cs 0 8 5)).toNatClampNeg 0 else (cs 0 5)))) 0 8 6)).toNatClampNeg 0 else ((upC cs 0 (upR (cs 0) 5 (if rroom 6 (cs 0 8 5) then (cs 0 8 5) + 1 else (cs 0 8 5)) (if rroom 6 (cs 0 8 5) then upd (cs 0 5) ((cs 0 8 5)).toNatClampNeg 0 else (cs 0 5)))) 0 6)))) 0 8 7)) (if rroom 6 ((upC (upC cs 0 (upR (cs 0) 5 (if rroom 6 (cs 0 8 5) then (cs 0 8 5) + 1 else (cs 0 8 5)) (if rroom 6 (cs 0 8 5) then upd (cs 0 5) ((cs 0 8 5)).toNatClampNeg 0 else (cs 0 5)))) 0 (upR ((upC cs 0 (upR (cs 0) 5 (if rroom 6 (cs 0 8 5) then (cs 0 8 5) + 1 else (cs 0 8 5)) (if rroom 6 (cs 0 8 5) then upd (cs 0 5) ((cs 0 8 5)).toNatClampNeg 0 else (cs 0 5)))) 0) 6 (if rroom 6 ((upC cs 0 (upR (cs 0) 5 (if rroom 6 (cs 0 8 5) then (cs 0 8 5) + 1 else (cs 0 8 5)) (if rroom 6 (cs 0 8 5) then upd (cs 0 5) ((cs 0 8 5)).toNatClampNeg 0 else (cs 0 5)))) 0 8 6) then ((upC cs 0 (upR (cs 0) 5 (if rroom 6 (cs 0 8 5) then (cs 0 8 5) + 1 else (cs 0 8 5)) (if rroom 6 (cs 0 8 5) then upd (cs 0 5) ((cs 0 8 5)).toNatClampNeg 0 else (cs 0 5)))) 0 8 6) + 1 else ((upC cs 0 (upR (cs 0) 5 (if rroom 6 (cs 0 8 5) then (cs 0 8 5) + 1 else (cs 0 8 5)) (if rroom 6 (cs 0 8 5) then upd (cs 0 5) ((cs 0 8 5)).toNatClampNeg 0 else (cs 0 5)))) 0 8 6)) (if rroom 6 ((upC cs 0 (upR (cs 0) 5 (if rroom 6 (cs 0 8 5) then (cs 0 8 5) + 1 else (cs 0 8 5)) (if rroom 6 (cs 0 8 5) then upd (cs 0 5) ((cs 0 8 5)).toNatClampNeg 0 else (cs 0 5)))) 0 8 6) then upd ((upC cs 0 (upR (cs 0) 5 (if rroom 6 (cs 0 8 5) then (cs 0 8 5) + 1 else (cs 0 8 5)) (if rroom 6 (cs 0 8 5) then upd (cs 0 5) ((cs 0 8 5)).toNatClampNeg 0 else (cs 0 5)))) 0 6) (((upC cs 0 (upR (cs 0) 5 (if rroom 6 (cs 0 8 5) then (cs 0 8 5) + 1 else (cs 0 8 5)) (if rroom 6 (cs 0 8 5) then upd (cs 0 5) ((cs 0 8 5)).toNatClampNeg 0 else (cs 0 5)))) 0 8 6)).toNatClampNeg 0 else ((upC cs 0 (upR (cs 0) 5 (if rroom 6 (cs 0 8 5) then (cs 0 8 5) + 1 else (cs 0 8 5)) (if rroom 6 (cs 0 8 5) then upd (cs 0 5) ((cs 0 8 5)).toNatClampNeg 0 else (cs 0 5)))) 0 6)))) 0 8 7) then upd ((upC (upC cs 0 (upR (cs 0) 5 (if rroom 6 (cs 0 8 5) then (cs 0 8 5) + 1 else (cs 0 8 5)) (if rroom 6 (cs 0 8 5) then upd (cs 0 5) ((cs 0 8 5)).toNatClampNeg 0 else (cs 0 5)))) 0 (upR ((upC cs 0 (upR (cs 0) 5 (if rroom 6 (cs 0 8 5) then (cs 0 8 5) + 1 else (cs 0 8 5)) (if rroom 6 (cs 0 8 5) then upd (cs 0 5) ((cs 0 8 5)).toNatClampNeg 0 else (cs 0 5)))) 0) 6 (if rroom 6 ((upC cs 0 (upR (cs 0) 5 (if rroom 6 (cs 0 8 5) then (cs 0 8 5) + 1 else (cs 0 8 5)) (if rroom 6 (cs 0 8 5) then upd (cs 0 5) ((cs 0 8 5)).toNatClampNeg 0 else (cs 0 5)))) 0 8 6) then ((upC cs 0 (upR (cs 0) 5 (if rroom 6 (cs 0 8 5) then (cs 0 8 5) + 1 else (cs 0 8 5)) (if rroom 6 (cs 0 8 5) then upd (cs 0 5) ((cs 0 8 5)).toNatClampNeg 0 else (cs 0 5)))) 0 8 6) + 1 else ((upC cs 0 (upR (cs 0) 5 (if rroom 6 (cs 0 8 5) then (cs 0 8 5) + 1 else (cs 0 8 5)) (if rroom 6 (cs 0 8 5) then upd (cs 0 5) ((cs 0 8 5)).toNatClampNeg 0 else (cs 0 5)))) 0 8 6)) (if rroom 6 ((upC cs 0 (upR (cs 0) 5 (if rroom 6 (cs 0 8 5) then (cs 0 8 5) + 1 else (cs 0 8 5)) (if rroom 6 (cs 0 8 5) then upd (cs 0 5) ((cs 0 8 5)).toNatClampNeg 0 else (cs 0 5)))) 0 8 6) then upd ((upC cs 0 (upR (cs 0) 5 (if rroom 6 (cs 0 8 5) then (cs 0 8 5) + 1 else (cs 0 8 5)) (if rroom 6 (cs 0 8 5) then upd (cs 0 5) ((cs 0 8 5)).toNatClampNeg 0 else (cs 0 5)))) 0 6) (((upC cs 0 (upR (cs 0) 5 (if rroom 6 (cs 0 8 5) then (cs 0 8 5) + 1 else (cs 0 8 5)) (if rroom 6 (cs 0 8 5) then upd (cs 0 5) ((cs 0 8 5)).toNatClampNeg 0 else (cs 0 5)))) 0 8 6)).toNatClampNeg 0 else ((upC cs 0 (upR (cs 0) 5 (if rroom 6 (cs 0 8 5) then (cs 0 8 5) + 1 else (cs 0 8 5)) (if rroom 6 (cs 0 8 5) then upd (cs 0 5) ((cs 0 8 5)).toNatClampNeg 0 else (cs 0 5)))) 0 6)))) 0 7) (((upC (upC cs 0 (upR (cs 0) 5 (if rroom 6 (cs 0 8 5) then (cs 0 8 5) + 1 else (cs 0 8 5)) (if rroom 6 (cs 0 8 5) then upd (cs 0 5) ((cs 0 8 5)).toNatClampNeg 0 else (cs 0 5)))) 0 (upR ((upC cs 0 (upR (cs 0) 5 (if rroom 6 (cs 0 8 5) then (cs 0 8 5) + 1 else (cs 0 8 5)) (if rroom 6 (cs 0 8 5) then upd (cs 0 5) ((cs 0 8 5)).toNatClampNeg 0 else (cs 0 5)))) 0) 6 (if rroom 6 ((upC cs 0 (upR (cs 0) 5 (if rroom 6 (cs 0 8 5) then (cs 0 8 5) + 1 else (cs 0 8 5)) (if rroom 6 (cs 0 8 5) then upd (cs 0 5) ((cs 0 8 5)).toNatClampNeg 0 else (cs 0 5)))) 0 8 6) then ((upC cs 0 (upR (cs 0) 5 (if rroom 6 (cs 0 8 5) then (cs 0 8 5) + 1 else (cs 0 8 5)) (if rroom 6 (cs 0 8 5) then upd (cs 0 5) ((cs 0 8 5)).toNatClampNeg 0 else (cs 0 5)))) 0 8 6) + 1 else ((upC cs 0 (upR (cs 0) 5 (if rroom 6 (cs 0 8 5) then (cs 0 8 5) + 1 else (cs 0 8 5)) (if rroom 6 (cs 0 8 5) then upd (cs 0 5) ((cs 0 8 5)).toNatClampNeg 0 else (cs 0 5)))) 0 8 6)) (if rroom 6 ((upC cs 0 (upR (cs 0) 5 (if rroom 6 (cs 0 8 5) then (cs 0 8 5) + 1 else (cs 0 8 5)) (if rroom 6 (cs 0 8 5) then upd (cs 0 5) ((cs 0 8 5)).toNatClampNeg 0 else (cs 0 5)))) 0 8 6) then upd ((upC cs 0 (upR (cs 0) 5 (if rroom 6 (cs 0 8 5) then (cs 0 8 5) + 1 else (cs 0 8 5)) (if rroom 6 (cs 0 8 5) then upd (cs 0 5) ((cs 0 8 5)).toNatClampNeg 0 else (cs 0 5)))) 0 6) (((upC cs 0 (upR (cs 0) 5 (if rroom 6 (cs 0 8 5) then (cs 0 8 5) + 1 else (cs 0 8 5)) (if rroom 6 (cs 0 8 5) then upd (cs 0 5) ((cs 0 8 5)).toNatClampNeg 0 else (cs 0 5)))) 0 8 6)).toNatClampNeg 0 else ((upC cs 0 (upR (cs 0) 5 (if rroom 6 (cs 0 8 5) then (cs 0 8 5) + 1 else (cs 0 8 5)) (if rroom 6 (cs 0 8 5) then upd (cs 0 5) ((cs 0 8 5)).toNatClampNeg 0 else (cs 0 5)))) 0 6)))) 0 8 7)).toNatClampNeg 0 else ((upC (upC cs 0 (upR (cs 0) 5 (if rroom 6 (cs 0 8 5) then (cs 0 8 5) + 1 else (cs 0 8 5)) (if rroom 6 (cs 0 8 5) then upd (cs 0 5) ((cs 0 8 5)).toNatClampNeg 0 else (cs 0 5)))) 0 (upR ((upC cs 0 (upR (cs 0) 5 (if rroom 6 (cs 0 8 5) then (cs 0 8 5) + 1 else (cs 0 8 5)) (if rroom 6 (cs 0 8 5) then upd (cs 0 5) ((cs 0 8 5)).toNatClampNeg 0 else (cs 0 5)))) 0) 6 (if rroom 6 ((upC cs 0 (upR (cs 0) 5 (if rroom 6 (cs 0 8 5) then (cs 0 8 5) + 1 else (cs 0 8 5)) (if rroom 6 (cs 0 8 5) then upd (cs 0 5) ((cs 0 8 5)).toNatClampNeg 0 else (cs 0 5)))) 0 8 6) then ((upC cs 0 (upR (cs 0) 5 (if rroom 6 (cs 0 8 5) then (cs 0 8 5) + 1 else (cs 0 8 5)) (if rroom 6 (cs 0 8 5) then upd (cs 0 5) ((cs 0 8 5)).toNatClampNeg 0 else (cs 0 5)))) 0 8 6) + 1 else ((upC cs 0 (upR (cs 0) 5 (if rroom 6 (cs 0 8 5) then (cs 0 8 5) + 1 else (cs 0 8 5)) (if rroom 6 (cs 0 8 5) then upd (cs 0 5) ((cs 0 8 5)).toNatClampNeg 0 else (cs 0 5)))) 0 8 6)) (if rroom 6 ((upC cs 0 (upR (cs 0) 5 (if rroom 6 (cs 0 8 5) then (cs 0 8 5) + 1 else (cs 0 8 5)) (if rroom 6 (cs 0 8 5) then upd (cs 0 5) ((cs 0 8 5)).toNatClampNeg 0 else (cs 0 5)))) 0 8 6) then upd ((upC cs 0 (upR (cs 0) 5 (if rroom 6 (cs 0 8 5) then (cs 0 8 5) + 1 else (cs 0 8 5)) (if rroom 6 (cs 0 8 5) then upd (cs 0 5) ((cs 0 8 5)).toNatClampNeg 0 else (cs 0 5)))) 0 6) (((upC cs 0 (upR (cs 0) 5 (if rroom 6 (cs 0 8 5) then (cs 0 8 5) + 1 else (cs 0 8 5)) (if rroom 6 (cs 0 8 5) then upd (cs 0 5) ((cs 0 8 5)).toNatClampNeg 0 else (cs 0 5)))) 0 8 6)).toNatClampNeg 0 else ((upC cs 0 (upR (cs 0) 5 (if rroom 6 (cs 0 8 5) then (cs 0 8 5) + 1 else (cs 0 8 5)) (if rroom 6 (cs 0 8 5) then upd (cs 0 5) ((cs 0 8 5)).toNatClampNeg 0 else (cs 0 5)))) 0 6)))) 0 7)))) 0 8 4) + 1 else ((upC (upC (upC cs 0 (upR (cs 0) 5 (if rroom 6 (cs 0 8 5) then (cs 0 8 5) + 1 else (cs 0 8 5)) (if rroom 6 (cs 0 8 5) then upd (cs 0 5) ((cs 0 8 5)).toNatClampNeg 0 else (cs 0 5)))) 0 (upR ((upC cs 0 (upR (cs 0) 5 (if rroom 6 (cs 0 8 5) then (cs 0 8 5) + 1 else (cs 0 8 5)) (if rroom 6 (cs 0 8 5) then upd (cs 0 5) ((cs 0 8 5)).toNatClampNeg 0 else (cs 0 5)))) 0) 6 (if rroom 6 ((upC cs 0 (upR (cs 0) 5 (if rroom 6 (cs 0 8 5) then (cs 0 8 5) + 1 else (cs 0 8 5)) (if rroom 6 (cs 0 8 5) then upd (cs 0 5) ((cs 0 8 5)).toNatClampNeg 0 else (cs 0 5)))) 0 8 6) then ((upC cs 0 (upR (cs 0) 5 (if rroom 6 (cs 0 8 5) then (cs 0 8 5) + 1 else (cs 0 8 5)) (if rroom 6 (cs 0 8 5) then upd (cs 0 5) ((cs 0 8 5)).toNatClampNeg 0 else (cs 0 5)))) 0 8 6) + 1 else ((upC cs 0 (upR (cs 0) 5 (if rroom 6 (cs 0 8 5) then (cs 0 8 5) + 1 else (cs 0 8 5)) (if rroom 6 (cs 0 8 5) then upd (cs 0 5) ((cs 0 8 5)).toNatClampNeg 0 else (cs 0 5)))) 0 8 6)) (if rroom 6 ((upC cs 0 (upR (cs 0) 5 (if rroom 6 (cs 0 8 5) then (cs 0 8 5) + 1 else (cs 0 8 5)) (if rroom 6 (cs 0 8 5) then upd (cs 0 5) ((cs 0 8 5)).toNatClampNeg 0 else (cs 0 5)))) 0 8 6) then upd ((upC cs 0 (upR (cs 0) 5 (if rroom 6 (cs 0 8 5) then (cs 0 8 5) + 1 else (cs 0 8 5)) (if rroom 6 (cs 0 8 5) then upd (cs 0 5) ((cs 0 8 5)).toNatClampNeg 0 else (cs 0 5)))) 0 6) (((upC cs 0 (upR (cs 0) 5 (if rroom 6 (cs 0 8 5) then (cs 0 8 5) + 1 else (cs 0 8 5)) (if rroom 6 (cs 0 8 5) then upd (cs 0 5) ((cs 0 8 5)).toNatClampNeg 0 else (cs 0 5)))) 0 8 6)).toNatClampNeg 0 else ((upC cs 0 (upR (cs 0) 5 (if rroom 6 (cs 0 8 5) then (cs 0 8 5) + 1 else (cs 0 8 5)) (if rroom 6 (cs 0 8 5) then upd (cs 0 5) ((cs 0 8 5)).toNatClampNeg 0 else (cs 0 5)))) 0 6)))) 0 (upR ((upC (upC cs 0 (upR (cs 0) 5 (if rroom 6 (cs 0 8 5) then (cs 0 8 5) + 1 else (cs 0 8 5)) (if rroom 6 (cs 0 8 5) then upd (cs 0 5) ((cs 0 8 5)).toNatClampNeg 0 else (cs 0 5)))) 0 (upR ((upC cs 0 (upR (cs 0) 5 (if rroom 6 (cs 0 8 5) then (cs 0 8 5) + 1 else (cs 0 8 5)) (if rroom 6 (cs 0 8 5) then upd (cs 0 5) ((cs 0 8 5)).toNatClampNeg 0 else (cs 0 5)))) 0) 6 (if rroom 6 ((upC cs 0 (upR (cs 0) 5 (if rroom 6 (cs 0 8 5) then (cs 0 8 5) + 1 else (cs 0 8 5)) (if rroom 6 (cs 0 8 5) then upd (cs 0 5) ((cs 0 8 5)).toNatClampNeg 0 else (cs 0 5)))) 0 8 6) then ((upC cs 0 (upR (cs 0) 5 (if rroom 6 (cs 0 8 5) then (cs 0 8 5) + 1 else (cs 0 8 5)) (if rroom 6 (cs 0 8 5) then upd (cs 0 5) ((cs 0 8 5)).toNatClampNeg 0 else (cs 0 5)))) 0 8 6) + 1 else ((upC cs 0 (upR (cs 0) 5 (if rroom 6 (cs 0 8 5) then (cs 0 8 5) + 1 else (cs 0 8 5)) (if rroom 6 (cs 0 8 5) then upd (cs 0 5) ((cs 0 8 5)).toNatClampNeg 0 else (cs 0 5)))) 0 8 6)) (if rroom 6 ((upC cs 0 (upR (cs 0) 5 (if rroom 6 (cs 0 8 5) then (cs 0 8 5) + 1 else (cs 0 8 5)) (if rroom 6 (cs 0 8 5) then upd (cs 0 5) ((cs 0 8 5)).toNatClampNeg 0 else (cs 0 5)))) 0 8 6) then upd ((upC cs 0 (upR (cs 0) 5 (if rroom 6 (cs 0 8 5) then (cs 0 8 5) + 1 else (cs 0 8 5)) (if rroom 6 (cs 0 8 5) then upd (cs 0 5) ((cs 0 8 5)).toNatClampNeg 0 else (cs 0 5)))) 0 6) (((upC cs 0 (upR (cs 0) 5 (if rroom 6 (cs 0 8 5) then (cs 0 8 5) + 1 else (cs 0 8 5)) (if rroom 6 (cs 0 8 5) then upd (cs 0 5) ((cs 0 8 5)).toNatClampNeg 0 else (cs 0 5)))) 0 8 6)).toNatClampNeg 0 else ((upC cs 0 (upR (cs 0) 5 (if rroom 6 (cs 0 8 5) then (cs 0 8 5) + 1 else (cs 0 8 5)) (if rroom 6 (cs 0 8 5) then upd (cs 0 5) ((cs 0 8 5)).toNatClampNeg 0 else (cs 0 5)))) 0 6)))) 0) 7 (if rroom 6 ((upC (upC cs 0 (upR (cs 0) 5 (if rroom 6 (cs 0 8 5) then (cs 0 8 5) + 1 else (cs 0 8 5)) (if rroom 6 (cs 0 8 5) then upd (cs 0 5) ((cs 0 8 5)).toNatClampNeg 0 else (cs 0 5)))) 0 (upR ((upC cs 0 (upR (cs 0) 5 (if rroom 6 (cs 0 8 5) then (cs 0 8 5) + 1 else (cs 0 8 5)) (if rroom 6 (cs 0 8 5) then upd (cs 0 5) ((cs 0 8 5)).toNatClampNeg 0 else (cs 0 5)))) 0) 6 (if rroom 6 ((upC cs 0 (upR (cs 0) 5 (if rroom 6 (cs 0 8 5) then (cs 0 8 5) + 1 else (cs 0 8 5)) (if rroom 6 (cs 0 8 5) then upd (cs 0 5) ((cs 0 8 5)).toNatClampNeg 0 else (cs 0 5)))) 0 8 6) then ((upC cs 0 (upR (cs 0) 5 (if rroom 6 (cs 0 8 5) then (cs 0 8 5) + 1 else (cs 0 8 5)) (if rroom 6 (cs 0 8 5) then upd (cs 0 5) ((cs 0 8 5)).toNatClampNeg 0 else (cs 0 5)))) 0 8 6) + 1 else ((upC cs 0 (upR (cs 0) 5 (if rroom 6 (cs 0 8 5) then (cs 0 8 5) + 1 else (cs 0 8 5)) (if rroom 6 (cs 0 8 5) then upd (cs 0 5) ((cs 0 8 5)).toNatClampNeg 0 else (cs 0 5)))) 0 8 6)) (if rroom 6 ((upC cs 0 (upR (cs 0) 5 (if rroom 6 (cs 0 8 5) then (cs 0 8 5) + 1 else (cs 0 8 5)) (if rroom 6 (cs 0 8 5) then upd (cs 0 5) ((cs 0 8 5)).toNatClampNeg 0 else (cs 0 5)))) 0 8 6) then upd ((upC cs 0 (upR (cs 0) 5 (if rroom 6 (cs 0 8 5) then (cs 0 8 5) + 1 else (cs 0 8 5)) (if rroom 6 (cs 0 8 5) then upd (cs 0 5) ((cs 0 8 5)).toNatClampNeg 0 else (cs 0 5)))) 0 6) (((upC cs 0 (upR (cs 0) 5 (if rroom 6 (cs 0 8 5) then (cs 0 8 5) + 1 else (cs 0 8 5)) (if rroom 6 (cs 0 8 5) then upd (cs 0 5) ((cs 0 8 5)).toNatClampNeg 0 else (cs 0 5)))) 0 8 6)).toNatClampNeg 0 else ((upC cs 0 (upR (cs 0) 5 (if rroom 6 (cs 0 8 5) then (cs 0 8 5) + 1 else (cs 0 8 5)) (if rroom 6 (cs 0 8 5) then upd (cs 0 5) ((cs 0 8 5)).toNatClampNeg 0 else (cs 0 5)))) 0 6)))) 0 8 7) then ((upC (upC cs 0 (upR (cs 0) 5 (if rroom 6 (cs 0 8 5) then (cs 0 8 5) + 1 else (cs 0 8 5)) (if rroom 6 (cs 0 8 5) then upd (cs 0 5) ((cs 0 8 5)).toNatClampNeg 0 else (cs 0 5)))) 0 (upR ((upC cs 0 (upR (cs 0) 5 (if rroom 6 (cs 0 8 5) then (cs 0 8 5) + 1 else (cs 0 8 5)) (if rroom 6 (cs 0 8 5) then upd (cs 0 5) ((cs 0 8 5)).toNatClampNeg 0 else (cs 0 5)))) 0) 6 (if rroom 6 ((upC cs 0 (upR (cs 0) 5 (if rroom 6 (cs 0 8 5) then (cs 0 8 5) + 1 else (cs 0 8 5)) (if rroom 6 (cs 0 8 5) then upd (cs 0 5) ((cs 0 8 5)).toNatClampNeg 0 else (cs 0 5)))) 0 8 6) then ((upC cs 0 (upR (cs 0) 5 (if rroom 6 (cs 0 8 5) then (cs 0 8 5) + 1 else (cs 0 8 5)) (if rroom 6 (cs 0 8 5) then upd (cs 0 5) ((cs 0 8 5)).toNatClampNeg 0 else (cs 0 5)))) 0 8 6) + 1 else ((upC cs 0 (upR (cs 0) 5 (if rroom 6 (cs 0 8 5) then (cs 0 8 5) + 1 else (cs 0 8 5)) (if rroom 6 (cs 0 8 5) then upd (cs 0 5) ((cs 0 8 5)).toNatClampNeg 0 else (cs 0 5)))) 0 8 6)) (if rroom 6 ((upC cs 0 (upR (cs 0) 5 (if rroom 6 (cs 0 8 5) then (cs 0 8 5) + 1 else (cs 0 8 5)) (if rroom 6 (cs 0 8 5) then upd (cs 0 5) ((cs 0 8 5)).toNatClampNeg 0 else (cs 0 5)))) 0 8 6) then upd ((upC cs 0 (upR (cs 0) 5 (if rroom 6 (cs 0 8 5) then (cs 0 8 5) + 1 else (cs 0 8 5)) (if rroom 6 (cs 0 8 5) then upd (cs 0 5) ((cs 0 8 5)).toNatClampNeg 0 else (cs 0 5)))) 0 6) (((upC cs 0 (upR (cs 0) 5 (if rroom 6 (cs 0 8 5) then (cs 0 8 5) + 1 else (cs 0 8 5)) (if rroom 6 (cs 0 8 5) then upd (cs 0 5) ((cs 0 8 5)).toNatClampNeg 0 else (cs 0 5)))) 0 8 6)).toNatClampNeg 0 else ((upC cs 0 (upR (cs 0) 5 (if rroom 6 (cs 0 8 5) then (cs 0 8 5) + 1 else (cs 0 8 5)) (if rroom 6 (cs 0 8 5) then upd (cs 0 5) ((cs 0 8 5)).toNatClampNeg 0 else (cs 0 5)))) 0 6)))) 0 8 7) + 1 else ((upC (upC cs 0 (upR (cs 0) 5 (if rroom 6 (cs 0 8 5) then (cs 0 8 5) + 1 else (cs 0 8 5)) (if rroom 6 (cs 0 8 5) then upd (cs 0 5) ((cs 0 8 5)).toNatClampNeg 0 else (cs 0 5)))) 0 (upR ((upC cs 0 (upR (cs 0) 5 (if rroom 6 (cs 0 8 5) then (cs 0 8 5) + 1 else (cs 0 8 5)) (if rroom 6 (cs 0 8 5) then upd (cs 0 5) ((cs 0 8 5)).toNatClampNeg 0 else (cs 0 5)))) 0) 6 (if rroom 6 ((upC cs 0 (upR (cs 0) 5 (if rroom 6 (cs 0 8 5) then (cs 0 8 5) + 1 else (cs 0 8 5)) (if rroom 6 (cs 0 8 5) then upd (cs 0 5) ((cs 0 8 5)).toNatClampNeg 0 else (cs 0 5)))) 0 8 6) then ((upC cs 0 (upR (cs 0) 5 (if rroom 6 (cs 0 8 5) then (cs 0 8 5) + 1 else (cs 0 8 5)) (if rroom 6 (cs 0 8 5) then upd (cs 0 5) ((cs 0 8 5)).toNatClampNeg 0 else (cs 0 5)))) 0 8 6) + 1 else ((upC cs 0 (upR (cs 0) 5 (if rroom 6 (cs 0 8 5) then (cs 0 8 5) + 1 else (cs 0 8 5)) (if rroom 6 (cs 0 8 5) then upd (cs 0 5) ((cs 0 8 5)).toNatClampNeg 0 else (cs 0 5)))) 0 8 6)) (if rroom 6 ((upC cs 0 (upR (cs 0) 5 (if rroom 6 (cs 0 8 5) then (cs 0 8 5) + 1 else (cs 0 8 5)) (if rroom 6 (cs 0 8 5) then upd (cs 0 5) ((cs 0 8 5)).toNatClampNeg 0 else (cs 0 5)))) 0 8 6) then upd ((upC cs 0 (upR (cs 0) 5 (if rroom 6 (cs 0 8 5) then (cs 0 8 5) + 1 else (cs 0 8 5)) (if rroom 6 (cs 0 8 5) then upd (cs 0 5) ((cs 0 8 5)).toNatClampNeg 0 else (cs 0 5)))) 0 6) (((upC cs 0 (upR (cs 0) 5 (if rroom 6 (cs 0 8 5) then (cs 0 8 5) + 1 else (cs 0 8 5)) (if rroom 6 (cs 0 8 5) then upd (cs 0 5) ((cs 0 8 5)).toNatClampNeg 0 else (cs 0 5)))) 0 8 6)).toNatClampNeg 0 else ((upC cs 0 (upR (cs 0) 5 (if rroom 6 (cs 0 8 5) then (cs 0 8 5) + 1 else (cs 0 8 5)) (if rroom 6 (cs 0 8 5) then upd (cs 0 5) ((cs 0 8 5)).toNatClampNeg 0 else (cs 0 5)))) 0 6)))) 0 8 7)) (if rroom 6 ((upC (upC cs 0 (upR (cs 0) 5 (if rroom 6 (cs 0 8 5) then (cs 0 8 5) + 1 else (cs 0 8 5)) (if rroom 6 (cs 0 8 5) then upd (cs 0 5) ((cs 0 8 5)).toNatClampNeg 0 else (cs 0 5)))) 0 (upR ((upC cs 0 (upR (cs 0) 5 (if rroom 6 (cs 0 8 5) then (cs 0 8 5) + 1 else (cs 0 8 5)) (if rroom 6 (cs 0 8 5) then upd (cs 0 5) ((cs 0 8 5)).toNatClampNeg 0 else (cs 0 5)))) 0) 6 (if rroom 6 ((upC cs 0 (upR (cs 0) 5 (if rroom 6 (cs 0 8 5) then (cs 0 8 5) + 1 else (cs 0 8 5)) (if rroom 6 (cs 0 8 5) then upd (cs 0 5) ((cs 0 8 5)).toNatClampNeg 0 else (cs 0 5)))) 0 8 6) then ((upC cs 0 (upR (cs 0) 5 (if rroom 6 (cs 0 8 5) then (cs 0 8 5) + 1 else (cs 0 8 5)) (if rroom 6 (cs 0 8 5) then upd (cs 0 5) ((cs 0 8 5)).toNatClampNeg 0 else (cs 0 5)))) 0 8 6) + 1 else ((upC cs 0 (upR (cs 0) 5 (if rroom 6 (cs 0 8 5) then (cs 0 8 5) + 1 else (cs 0 8 5)) (if rroom 6 (cs 0 8 5) then upd (cs 0 5) ((cs 0 8 5)).toNatClampNeg 0 else (cs 0 5)))) 0 8 6)) (if rroom 6 ((upC cs 0 (upR (cs 0) 5 (if rroom 6 (cs 0 8 5) then (cs 0 8 5) + 1 else (cs 0 8 5)) (if rroom 6 (cs 0 8 5) then upd (cs 0 5) ((cs 0 8 5)).toNatClampNeg 0 else (cs 0 5)))) 0 8 6) then upd ((upC cs 0 (upR (cs 0) 5 (if rroom 6 (cs 0 8 5) then (cs 0 8 5) + 1 else (cs 0 8 5)) (if rroom 6 (cs 0 8 5) then upd (cs 0 5) ((cs 0 8 5)).toNatClampNeg 0 else (cs 0 5)))) 0 6) (((upC cs 0 (upR (cs 0) 5 (if rroom 6 (cs 0 8 5) then (cs 0 8 5) + 1 else (cs 0 8 5)) (if rroom 6 (cs 0 8 5) then upd (cs 0 5) ((cs 0 8 5)).toNatClampNeg 0 else (cs 0 5)))) 0 8 6)).toNatClampNeg 0 else ((upC cs 0 (upR (cs 0) 5 (if rroom 6 (cs 0 8 5) then (cs 0 8 5) + 1 else (cs 0 8 5)) (if rroom 6 (cs 0 8 5) then upd (cs 0 5) ((cs 0 8 5)).toNatClampNeg 0 else (cs 0 5)))) 0 6)))) 0 8 7) then upd ((upC (upC cs 0 (upR (cs 0) 5 (if rroom 6 (cs 0 8 5) then (cs 0 8 5) + 1 else (cs 0 8 5)) (if rroom 6 (cs 0 8 5) then upd (cs 0 5) ((cs 0 8 5)).toNatClampNeg 0 else (cs 0 5)))) 0 (upR ((upC cs 0 (upR (cs 0) 5 (if rroom 6 (cs 0 8 5) then (cs 0 8 5) + 1 else (cs 0 8 5)) (if rroom 6 (cs 0 8 5) then upd (cs 0 5) ((cs 0 8 5)).toNatClampNeg 0 else (cs 0 5)))) 0) 6 (if rroom 6 ((upC cs 0 (upR (cs 0) 5 (if rroom 6 (cs 0 8 5) then (cs 0 8 5) + 1 else (cs 0 8 5)) (if rroom 6 (cs 0 8 5) then upd (cs 0 5) ((cs 0 8 5)).toNatClampNeg 0 else (cs 0 5)))) 0 8 6) then ((upC cs 0 (upR (cs 0) 5 (if rroom 6 (cs 0 8 5) then (cs 0 8 5) + 1 else (cs 0 8 5)) (if rroom 6 (cs 0 8 5) then upd (cs 0 5) ((cs 0 8 5)).toNatClampNeg 0 else (cs 0 5)))) 0 8 6) + 1 else ((upC cs 0 (upR (cs 0) 5 (if rroom 6 (cs 0 8 5) then (cs 0 8 5) + 1 else (cs 0 8 5)) (if rroom 6 (cs 0 8 5) then upd (cs 0 5) ((cs 0 8 5)).toNatClampNeg 0 else (cs 0 5)))) 0 8 6)) (if rroom 6 ((upC cs 0 (upR (cs 0) 5 (if rroom 6 (cs 0 8 5) then (cs 0 8 5) + 1 else (cs 0 8 5)) (if rroom 6 (cs 0 8 5) then upd (cs 0 5) ((cs 0 8 5)).toNatClampNeg 0 else (cs 0 5)))) 0 8 6) then upd ((upC cs 0 (upR (cs 0) 5 (if rroom 6 (cs 0 8 5) then (cs 0 8 5) + 1 else (cs 0 8 5)) (if rroom 6 (cs 0 8 5) then upd (cs 0 5) ((cs 0 8 5)).toNatClampNeg 0 else (cs 0 5)))) 0 6) (((upC cs 0 (upR (cs 0) 5 (if rroom 6 (cs 0 8 5) then (cs 0 8 5) + 1 else (cs 0 8 5)) (if rroom 6 (cs 0 8 5) then upd (cs 0 5) ((cs 0 8 5)).toNatClampNeg 0 else (cs 0 5)))) 0 8 6)).toNatClampNeg 0 else ((upC cs 0 (upR (cs 0) 5 (if rroom 6 (cs 0 8 5) then (cs 0 8 5) + 1 else (cs 0 8 5)) (if rroom 6 (cs 0 8 5) then upd (cs 0 5) ((cs 0 8 5)).toNatClampNeg 0 else (cs 0 5)))) 0 6)))) 0 7) (((upC (upC cs 0 (upR (cs 0) 5 (if rroom 6 (cs 0 8 5) then (cs 0 8 5) + 1 else (cs 0 8 5)) (if rroom 6 (cs 0 8 5) then upd (cs 0 5) ((cs 0 8 5)).toNatClampNeg 0 else (cs 0 5)))) 0 (upR ((upC cs 0 (upR (cs 0) 5 (if rroom 6 (cs 0 8 5) then (cs 0 8 5) + 1 else (cs 0 8 5)) (if rroom 6 (cs 0 8 5) then upd (cs 0 5) ((cs 0 8 5)).toNatClampNeg 0 else (cs 0 5)))) 0) 6 (if rroom 6 ((upC cs 0 (upR (cs 0) 5 (if rroom 6 (cs 0 8 5) then (cs 0 8 5) + 1 else (cs 0 8 5)) (if rroom 6 (cs 0 8 5) then upd (cs 0 5) ((cs 0 8 5)).toNatClampNeg 0 else (cs 0 5)))) 0 8 6) then ((upC cs 0 (upR (cs 0) 5 (if rroom 6 (cs 0 8 5) then (cs 0 8 5) + 1 else (cs 0 8 5)) (if rroom 6 (cs 0 8 5) then upd (cs 0 5) ((cs 0 8 5)).toNatClampNeg 0 else (cs 0 5)))) 0 8 6) + 1 else ((upC cs 0 (upR (cs 0) 5 (if rroom 6 (cs 0 8 5) then (cs 0 8 5) + 1 else (cs 0 8 5)) (if rroom 6 (cs 0 8 5) then upd (cs 0 5) ((cs 0 8 5)).toNatClampNeg 0 else (cs 0 5)))) 0 8 6)) (if rroom 6 ((upC cs 0 (upR (cs 0) 5 (if rroom 6 (cs 0 8 5) then (cs 0 8 5) + 1 else (cs 0 8 5)) (if rroom 6 (cs 0 8 5) then upd (cs 0 5) ((cs 0 8 5)).toNatClampNeg 0 else (cs 0 5)))) 0 8 6) then upd ((upC cs 0 (upR (cs 0) 5 (if rroom 6 (cs 0 8 5) then (cs 0 8 5) + 1 else (cs 0 8 5)) (if rroom 6 (cs 0 8 5) then upd (cs 0 5) ((cs 0 8 5)).toNatClampNeg 0 else (cs 0 5)))) 0 6) (((upC cs 0 (upR (cs 0) 5 (if rroom 6 (cs 0 8 5) then (cs 0 8 5) + 1 else (cs 0 8 5)) (if rroom 6 (cs 0 8 5) then upd (cs 0 5) ((cs 0 8 5)).toNatClampNeg 0 else (cs 0 5)))) 0 8 6)).toNatClampNeg 0 else ((upC cs 0 (upR (cs 0) 5 (if rroom 6 (cs 0 8 5) then (cs 0 8 5) + 1 else (cs 0 8 5)) (if rroom 6 (cs 0 8 5) then upd (cs 0 5) ((cs 0 8 5)).toNatClampNeg 0 else (cs 0 5)))) 0 6)))) 0 8 7)).toNatClampNeg 0 else ((upC (upC cs 0 (upR (cs 0) 5 (if rroom 6 (cs 0 8 5) then (cs 0 8 5) + 1 else (cs 0 8 5)) (if rroom 6 (cs 0 8 5) then upd (cs 0 5) ((cs 0 8 5)).toNatClampNeg 0 else (cs 0 5)))) 0 (upR ((upC cs 0 (upR (cs 0) 5 (if rroom 6 (cs 0 8 5) then (cs 0 8 5) + 1 else (cs 0 8 5)) (if rroom 6 (cs 0 8 5) then upd (cs 0 5) ((cs 0 8 5)).toNatClampNeg 0 else (cs 0 5)))) 0) 6 (if rroom 6 ((upC cs 0 (upR (cs 0) 5 (if rroom 6 (cs 0 8 5) then (cs 0 8 5) + 1 else (cs 0 8 5)) (if rroom 6 (cs 0 8 5) then upd (cs 0 5) ((cs 0 8 5)).toNatClampNeg 0 else (cs 0 5)))) 0 8 6) then ((upC cs 0 (upR (cs 0) 5 (if rroom 6 (cs 0 8 5) then (cs 0 8 5) + 1 else (cs 0 8 5)) (if rroom 6 (cs 0 8 5) then upd (cs 0 5) ((cs 0 8 5)).toNatClampNeg 0 else (cs 0 5)))) 0 8 6) + 1 else ((upC cs 0 (upR (cs 0) 5 (if rroom 6 (cs 0 8 5) then (cs 0 8 5) + 1 else (cs 0 8 5)) (if rroom 6 (cs 0 8 5) then upd (cs 0 5) ((cs 0 8 5)).toNatClampNeg 0 else (cs 0 5)))) 0 8 6)) (if rroom 6 ((upC cs 0 (upR (cs 0) 5 (if rroom 6 (cs 0 8 5) then (cs 0 8 5) + 1 else (cs 0 8 5)) (if rroom 6 (cs 0 8 5) then upd (cs 0 5) ((cs 0 8 5)).toNatClampNeg 0 else (cs 0 5)))) 0 8 6) then upd ((upC cs 0 (upR (cs 0) 5 (if rroom 6 (cs 0 8 5) then (cs 0 8 5) + 1 else (cs 0 8 5)) (if rroom 6 (cs 0 8 5) then upd (cs 0 5) ((cs 0 8 5)).toNatClampNeg 0 else (cs 0 5)))) 0 6) (((upC cs 0 (upR (cs 0) 5 (if rroom 6 (cs 0 8 5) then (cs 0 8 5) + 1 else (cs 0 8 5)) (if rroom 6 (cs 0 8 5) then upd (cs 0 5) ((cs 0 8 5)).toNatClampNeg 0 else (cs 0 5)))) 0 8 6)).toNatClampNeg 0 else ((upC cs 0 (upR (cs 0) 5 (if rroom 6 (cs 0 8 5) then (cs 0 8 5) + 1 else (cs 0 8 5)) (if rroom 6 (cs 0 8 5) then upd (cs 0 5) ((cs 0 8 5)).toNatClampNeg 0 else (cs 0 5)))) 0 6)))) 0 7)))) 0 8 4)) (if rroom 6 ((upC (upC (upC cs 0 (upR (cs 0) 5 (if rroom 6 (cs 0 8 5) then (cs 0 8 5) + 1 else (cs 0 8 5)) (if rroom 6 (cs 0 8 5) then upd (cs 0 5) ((cs 0 8 5)).toNatClampNeg 0 else (cs 0 5)))) 0 (upR ((upC cs 0 (upR (cs 0) 5 (if rroom 6 (cs 0 8 5) then (cs 0 8 5) + 1 else (cs 0 8 5)) (if rroom 6 (cs 0 8 5) then upd (cs 0 5) ((cs 0 8 5)).toNatClampNeg 0 else (cs 0 5)))) 0) 6 (if rroom 6 ((upC cs 0 (upR (cs 0) 5 (if rroom 6 (cs 0 8 5) then (cs 0 8 5) + 1 else (cs 0 8 5)) (if rroom 6 (cs 0 8 5) then upd (cs 0 5) ((cs 0 8 5)).toNatClampNeg 0 else (cs 0 5)))) 0 8 6) then ((upC cs 0 (upR (cs 0) 5 (if rroom 6 (cs 0 8 5) then (cs 0 8 5) + 1 else (cs 0 8 5)) (if rroom 6 (cs 0 8 5) then upd (cs 0 5) ((cs 0 8 5)).toNatClampNeg 0 else (cs 0 5)))) 0 8 6) + 1 else ((upC cs 0 (upR (cs 0) 5 (if rroom 6 (cs 0 8 5) then (cs 0 8 5) + 1 else (cs 0 8 5)) (if rroom 6 (cs 0 8 5) then upd (cs 0 5) ((cs 0 8 5)).toNatClampNeg 0 else (cs 0 5)))) 0 8 6)) (if rroom 6 ((upC cs 0 (upR (cs 0) 5 (if rroom 6 (cs 0 8 5) then (cs 0 8 5) + 1 else (cs 0 8 5)) (if rroom 6 (cs 0 8 5) then upd (cs 0 5) ((cs 0 8 5)).toNatClampNeg 0 else (cs 0 5)))) 0 8 6) then upd ((upC cs 0 (upR (cs 0) 5 (if rroom 6 (cs 0 8 5) then (cs 0 8 5) + 1 else (cs 0 8 5)) (if rroom 6 (cs 0 8 5) then upd (cs 0 5) ((cs 0 8 5)).toNatClampNeg 0 else (cs 0 5)))) 0 6) (((upC cs 0 (upR (cs 0) 5 (if rroom 6 (cs 0 8 5) then (cs 0 8 5) + 1 else (cs 0 8 5)) (if rroom 6 (cs 0 8 5) then upd (cs 0 5) ((cs 0 8 5)).toNatClampNeg 0 else (cs 0 5)))) 0 8 6)).toNatClampNeg 0 else ((upC cs 0 (upR (cs 0) 5 (if rroom 6 (cs 0 8 5) then (cs 0 8 5) + 1 else (cs 0 8 5)) (if rroom 6 (cs 0 8 5) then upd (cs 0 5) ((cs 0 8 5)).toNatClampNeg 0 else (cs 0 5)))) 0 6)))) 0 (upR ((upC (upC cs 0 (upR (cs 0) 5 (if rroom 6 (cs 0 8 5) then (cs 0 8 5) + 1 else (cs 0 8 5)) (if rroom 6 (cs 0 8 5) then upd (cs 0 5) ((cs 0 8 5)).toNatClampNeg 0 else (cs 0 5)))) 0 (upR ((upC cs 0 (upR (cs 0) 5 (if rroom 6 (cs 0 8 5) then (cs 0 8 5) + 1 else (cs 0 8 5)) (if rroom 6 (cs 0 8 5) then upd (cs 0 5) ((cs 0 8 5)).toNatClampNeg 0 else (cs 0 5)))) 0) 6 (if rroom 6 ((upC cs 0 (upR (cs 0) 5 (if rroom 6 (cs 0 8 5) then (cs 0 8 5) + 1 else (cs 0 8 5)) (if rroom 6 (cs 0 8 5) then upd (cs 0 5) ((cs 0 8 5)).toNatClampNeg 0 else (cs 0 5)))) 0 8 6) then ((upC cs 0 (upR (cs 0) 5 (if rroom 6 (cs 0 8 5) then (cs 0 8 5) + 1 else (cs 0 8 5)) (if rroom 6 (cs 0 8 5) then upd (cs 0 5) ((cs 0 8 5)).toNatClampNeg 0 else (cs 0 5)))) 0 8 6) + 1 else ((upC cs 0 (upR (cs 0) 5 (if rroom 6 (cs 0 8 5) then (cs 0 8 5) + 1 else (cs 0 8 5)) (if rroom 6 (cs 0 8 5) then upd (cs 0 5) ((cs 0 8 5)).toNatClampNeg 0 else (cs 0 5)))) 0 8 6)) (if rroom 6 ((upC cs 0 (upR (cs 0) 5 (if rroom 6 (cs 0 8 5) then (cs 0 8 5) + 1 else (cs 0 8 5)) (if rroom 6 (cs 0 8 5) then upd (cs 0 5) ((cs 0 8 5)).toNatClampNeg 0 else (cs 0 5)))) 0 8 6) then upd ((upC cs 0 (upR (cs 0) 5 (if rroom 6 (cs 0 8 5) then (cs 0 8 5) + 1 else (cs 0 8 5)) (if rroom 6 (cs 0 8 5) then upd (cs 0 5) ((cs 0 8 5)).toNatClampNeg 0 else (cs 0 5)))) 0 6) (((upC cs 0 (upR (cs 0) 5 (if rroom 6 (cs 0 8 5) then (cs 0 8 5) + 1 else (cs 0 8 5)) (if rroom 6 (cs 0 8 5) then upd (cs 0 5) ((cs 0 8 5)).toNatClampNeg 0 else (cs 0 5)))) 0 8 6)).toNatClampNeg 0 else ((upC cs 0 (upR (cs 0) 5 (if rroom 6 (cs 0 8 5) then (cs 0 8 5) + 1 else (cs 0 8 5)) (if rroom 6 (cs 0 8 5) then upd (cs 0 5) ((cs 0 8 5)).toNatClampNeg 0 else (cs 0 5)))) 0 6)))) 0) 7 (if rroom 6 ((upC (upC cs 0 (upR (cs 0) 5 (if rroom 6 (cs 0 8 5) then (cs 0 8 5) + 1 else (cs 0 8 5)) (if rroom 6 (cs 0 8 5) then upd (cs 0 5) ((cs 0 8 5)).toNatClampNeg 0 else (cs 0 5)))) 0 (upR ((upC cs 0 (upR (cs 0) 5 (if rroom 6 (cs 0 8 5) then (cs 0 8 5) + 1 else (cs 0 8 5)) (if rroom 6 (cs 0 8 5) then upd (cs 0 5) ((cs 0 8 5)).toNatClampNeg 0 else (cs 0 5)))) 0) 6 (if rroom 6 ((upC cs 0 (upR (cs 0) 5 (if rroom 6 (cs 0 8 5) then (cs 0 8 5) + 1 else (cs 0 8 5)) (if rroom 6 (cs 0 8 5) then upd (cs 0 5) ((cs 0 8 5)).toNatClampNeg 0 else (cs 0 5)))) 0 8 6) then ((upC cs 0 (upR (cs 0) 5 (if rroom 6 (cs 0 8 5) then (cs 0 8 5) + 1 else (cs 0 8 5)) (if rroom 6 (cs 0 8 5) then upd (cs 0 5) ((cs 0 8 5)).toNatClampNeg 0 else (cs 0 5)))) 0 8 6) + 1 else ((upC cs 0 (upR (cs 0) 5 (if rroom 6 (cs 0 8 5) then (cs 0 8 5) + 1 else (cs 0 8 5)) (if rroom 6 (cs 0 8 5) then upd (cs 0 5) ((cs 0 8 5)).toNatClampNeg 0 else (cs 0 5)))) 0 8 6)) (if rroom 6 ((upC cs 0 (upR (cs 0) 5 (if rroom 6 (cs 0 8 5) then (cs 0 8 5) + 1 else (cs 0 8 5)) (if rroom 6 (cs 0 8 5) then upd (cs 0 5) ((cs 0 8 5)).toNatClampNeg 0 else (cs 0 5)))) 0 8 6) then upd ((upC cs 0 (upR (cs 0) 5 (if rroom 6 (cs 0 8 5) then (cs 0 8 5) + 1 else (cs 0 8 5)) (if rroom 6 (cs 0 8 5) then upd (cs 0 5) ((cs 0 8 5)).toNatClampNeg 0 else (cs 0 5)))) 0 6) (((upC cs 0 (upR (cs 0) 5 (if rroom 6 (cs 0 8 5) then (cs 0 8 5) + 1 else (cs 0 8 5)) (if rroom 6 (cs 0 8 5) then upd (cs 0 5) ((cs 0 8 5)).toNatClampNeg 0 else (cs 0 5)))) 0 8 6)).toNatClampNeg 0 else ((upC cs 0 (upR (cs 0) 5 (if rroom 6 (cs 0 8 5) then (cs 0 8 5) + 1 else (cs 0 8 5)) (if rroom 6 (cs 0 8 5) then upd (cs 0 5) ((cs 0 8 5)).toNatClampNeg 0 else (cs 0 5)))) 0 6)))) 0 8 7) then ((upC (upC cs 0 (upR (cs 0) 5 (if rroom 6 (cs 0 8 5) then (cs 0 8 5) + 1 else (cs 0 8 5)) (if rroom 6 (cs 0 8 5) then upd (cs 0 5) ((cs 0 8 5)).toNatClampNeg 0 else (cs 0 5)))) 0 (upR ((upC cs 0 (upR (cs 0) 5 (if rroom 6 (cs 0 8 5) then (cs 0 8 5) + 1 else (cs 0 8 5)) (if rroom 6 (cs 0 8 5) then upd (cs 0 5) ((cs 0 8 5)).toNatClampNeg 0 else (cs 0 5)))) 0) 6 (if rroom 6 ((upC cs 0 (upR (cs 0) 5 (if rroom 6 (cs 0 8 5) then (cs 0 8 5) + 1 else (cs 0 8 5)) (if rroom 6 (cs 0 8 5) then upd (cs 0 5) ((cs 0 8 5)).toNatClampNeg 0 else (cs 0 5)))) 0 8 6) then ((upC cs 0 (upR (cs 0) 5 (if rroom 6 (cs 0 8 5) then (cs 0 8 5) + 1 else (cs 0 8 5)) (if rroom 6 (cs 0 8 5) then upd (cs 0 5) ((cs 0 8 5)).toNatClampNeg 0 else (cs 0 5)))) 0 8 6) + 1 else ((upC cs 0 (upR (cs 0) 5 (if rroom 6 (cs 0 8 5) then (cs 0 8 5) + 1 else (cs 0 8 5)) (if rroom 6 (cs 0 8 5) then upd (cs 0 5) ((cs 0 8 5)).toNatClampNeg 0 else (cs 0 5)))) 0 8 6)) (if rroom 6 ((upC cs 0 (upR (cs 0) 5 (if rroom 6 (cs 0 8 5) then (cs 0 8 5) + 1 else (cs 0 8 5)) (if rroom 6 (cs 0 8 5) then upd (cs 0 5) ((cs 0 8 5)).toNatClampNeg 0 else (cs 0 5)))) 0 8 6) then upd ((upC cs 0 (upR (cs 0) 5 (if rroom 6 (cs 0 8 5) then (cs 0 8 5) + 1 else (cs 0 8 5)) (if rroom 6 (cs 0 8 5) then upd (cs 0 5) ((cs 0 8 5)).toNatClampNeg 0 else (cs 0 5)))) 0 6) (((upC cs 0 (upR (cs 0) 5 (if rroom 6 (cs 0 8 5) then (cs 0 8 5) + 1 else (cs 0 8 5)) (if rroom 6 (cs 0 8 5) then upd (cs 0 5) ((cs 0 8 5)).toNatClampNeg 0 else (cs 0 5)))) 0 8 6)).toNatClampNeg 0 else ((upC cs 0 (upR (cs 0) 5 (if rroom 6 (cs 0 8 5) then (cs 0 8 5) + 1 else (cs 0 8 5)) (if rroom 6 (cs 0 8 5) then upd (cs 0 5) ((cs 0 8 5)).toNatClampNeg 0 else (cs 0 5)))) 0 6)))) 0 8 7) + 1 else ((upC (upC cs 0 (upR (cs 0) 5 (if rroom 6 (cs 0 8 5) then (cs 0 8 5) + 1 else (cs 0 8 5)) (if rroom 6 (cs 0 8 5) then upd (cs 0 5) ((cs 0 8 5)).toNatClampNeg 0 else (cs 0 5)))) 0 (upR ((upC cs 0 (upR (cs 0) 5 (if rroom 6 (cs 0 8 5) then (cs 0 8 5) + 1 else (cs 0 8 5)) (if rroom 6 (cs 0 8 5) then upd (cs 0 5) ((cs 0 8 5)).toNatClampNeg 0 else (cs 0 5)))) 0) 6 (if rroom 6 ((upC cs 0 (upR (cs 0) 5 (if rroom 6 (cs 0 8 5) then (cs 0 8 5) + 1 else (cs 0 8 5)) (if rroom 6 (cs 0 8 5) then upd (cs 0 5) ((cs 0 8 5)).toNatClampNeg 0 else (cs 0 5)))) 0 8 6) then ((upC cs 0 (upR (cs 0) 5 (if rroom 6 (cs 0 8 5) then (cs 0 8 5) + 1 else (cs 0 8 5)) (if rroom 6 (cs 0 8 5) then upd (cs 0 5) ((cs 0 8 5)).toNatClampNeg 0 else (cs 0 5)))) 0 8 6) + 1 else ((upC cs 0 (upR (cs 0) 5 (if rroom 6 (cs 0 8 5) then (cs 0 8 5) + 1 else (cs 0 8 5)) (if rroom 6 (cs 0 8 5) then upd (cs 0 5) ((cs 0 8 5)).toNatClampNeg 0 else (cs 0 5)))) 0 8 6)) (if rroom 6 ((upC cs 0 (upR (cs 0) 5 (if rroom 6 (cs 0 8 5) then (cs 0 8 5) + 1 else (cs 0 8 5)) (if rroom 6 (cs 0 8 5) then upd (cs 0 5) ((cs 0 8 5)).toNatClampNeg 0 else (cs 0 5)))) 0 8 6) then upd ((upC cs 0 (upR (cs 0) 5 (if rroom 6 (cs 0 8 5) then (cs 0 8 5) + 1 else (cs 0 8 5)) (if rroom 6 (cs 0 8 5) then upd (cs 0 5) ((cs 0 8 5)).toNatClampNeg 0 else (cs 0 5)))) 0 6) (((upC cs 0 (upR (cs 0) 5 (if rroom 6 (cs 0 8 5) then (cs 0 8 5) + 1 else (cs 0 8 5)) (if rroom 6 (cs 0 8 5) then upd (cs 0 5) ((cs 0 8 5)).toNatClampNeg 0 else (cs 0 5)))) 0 8 6)).toNatClampNeg 0 else ((upC cs 0 (upR (cs 0) 5 (if rroom 6 (cs 0 8 5) then (cs 0 8 5) + 1 else (cs 0 8 5)) (if rroom 6 (cs 0 8 5) then upd (cs 0 5) ((cs 0 8 5)).toNatClampNeg 0 else (cs 0 5)))) 0 6)))) 0 8 7)) (if rroom 6 ((upC (upC cs 0 (upR (cs 0) 5 (if rroom 6 (cs 0 8 5) then (cs 0 8 5) + 1 else (cs 0 8 5)) (if rroom 6 (cs 0 8 5) then upd (cs 0 5) ((cs 0 8 5)).toNatClampNeg 0 else (cs 0 5)))) 0 (upR ((upC cs 0 (upR (cs 0) 5 (if rroom 6 (cs 0 8 5) then (cs 0 8 5) + 1 else (cs 0 8 5)) (if rroom 6 (cs 0 8 5) then upd (cs 0 5) ((cs 0 8 5)).toNatClampNeg 0 else (cs 0 5)))) 0) 6 (if rroom 6 ((upC cs 0 (upR (cs 0) 5 (if rroom 6 (cs 0 8 5) then (cs 0 8 5) + 1 else (cs 0 8 5)) (if rroom 6 (cs 0 8 5) then upd (cs 0 5) ((cs 0 8 5)).toNatClampNeg 0 else (cs 0 5)))) 0 8 6) then ((upC cs 0 (upR (cs 0) 5 (if rroom 6 (cs 0 8 5) then (cs 0 8 5) + 1 else (cs 0 8 5)) (if rroom 6 (cs 0 8 5) then upd (cs 0 5) ((cs 0 8 5)).toNatClampNeg 0 else (cs 0 5)))) 0 8 6) + 1 else ((upC cs 0 (upR (cs 0) 5 (if rroom 6 (cs 0 8 5) then (cs 0 8 5) + 1 else (cs 0 8 5)) (if rroom 6 (cs 0 8 5) then upd (cs 0 5) ((cs 0 8 5)).toNatClampNeg 0 else (cs 0 5)))) 0 8 6)) (if rroom 6 ((upC cs 0 (upR (cs 0) 5 (if rroom 6 (cs 0 8 5) then (cs 0 8 5) + 1 else (cs 0 8 5)) (if rroom 6 (cs 0 8 5) then upd (cs 0 5) ((cs 0 8 5)).toNatClampNeg 0 else (cs 0 5)))) 0 8 6) then upd ((upC cs 0 (upR (cs 0) 5 (if rroom 6 (cs 0 8 5) then (cs 0 8 5) + 1 else (cs 0 8 5)) (if rroom 6 (cs 0 8 5) then upd (cs 0 5) ((cs 0 8 5)).toNatClampNeg 0 else (cs 0 5)))) 0 6) (((upC cs 0 (upR (cs 0) 5 (if rroom 6 (cs 0 8 5) then (cs 0 8 5) + 1 else (cs 0 8 5)) (if rroom 6 (cs 0 8 5) then upd (cs 0 5) ((cs 0 8 5)).toNatClampNeg 0 else (cs 0 5)))) 0 8 6)).toNatClampNeg 0 else ((upC cs 0 (upR (cs 0) 5 (if rroom 6 (cs 0 8 5) then (cs 0 8 5) + 1 else (cs 0 8 5)) (if rroom 6 (cs 0 8 5) then upd (cs 0 5) ((cs 0 8 5)).toNatClampNeg 0 else (cs 0 5)))) 0 6)))) 0 8 7) then upd ((upC (upC cs 0 (upR (cs 0) 5 (if rroom 6 (cs 0 8 5) then (cs 0 8 5) + 1 else (cs 0 8 5)) (if rroom 6 (cs 0 8 5) then upd (cs 0 5) ((cs 0 8 5)).toNatClampNeg 0 else (cs 0 5)))) 0 (upR ((upC cs 0 (upR (cs 0) 5 (if rroom 6 (cs 0 8 5) then (cs 0 8 5) + 1 else (cs 0 8 5)) (if rroom 6 (cs 0 8 5) then upd (cs 0 5) ((cs 0 8 5)).toNatClampNeg 0 else (cs 0 5)))) 0) 6 (if rroom 6 ((upC cs 0 (upR (cs 0) 5 (if rroom 6 (cs 0 8 5) then (cs 0 8 5) + 1 else (cs 0 8 5)) (if rroom 6 (cs 0 8 5) then upd (cs 0 5) ((cs 0 8 5)).toNatClampNeg 0 else (cs 0 5)))) 0 8 6) then ((upC cs 0 (upR (cs 0) 5 (if rroom 6 (cs 0 8 5) then (cs 0 8 5) + 1 else (cs 0 8 5)) (if rroom 6 (cs 0 8 5) then upd (cs 0 5) ((cs 0 8 5)).toNatClampNeg 0 else (cs 0 5)))) 0 8 6) + 1 else ((upC cs 0 (upR (cs 0) 5 (if rroom 6 (cs 0 8 5) then (cs 0 8 5) + 1 else (cs 0 8 5)) (if rroom 6 (cs 0 8 5) then upd (cs 0 5) ((cs 0 8 5)).toNatClampNeg 0 else (cs 0 5)))) 0 8 6)) (if rroom 6 ((upC cs 0 (upR (cs 0) 5 (if rroom 6 (cs 0 8 5) then (cs 0 8 5) + 1 else (cs 0 8 5)) (if rroom 6 (cs 0 8 5) then upd (cs 0 5) ((cs 0 8 5)).toNatClampNeg 0 else (cs 0 5)))) 0 8 6) then upd ((upC cs 0 (upR (cs 0) 5 (if rroom 6 (cs 0 8 5) then (cs 0 8 5) + 1 else (cs 0 8 5)) (if rroom 6 (cs 0 8 5) then upd (cs 0 5) ((cs 0 8 5)).toNatClampNeg 0 else (cs 0 5)))) 0 6) (((upC cs 0 (upR (cs 0) 5 (if rroom 6 (cs 0 8 5) then (cs 0 8 5) + 1 else (cs 0 8 5)) (if rroom 6 (cs 0 8 5) then upd (cs 0 5) ((cs 0 8 5)).toNatClampNeg 0 else (cs 0 5)))) 0 8 6)).toNatClampNeg 0 else ((upC cs 0 (upR (cs 0) 5 (if rroom 6 (cs 0 8 5) then (cs 0 8 5) + 1 else (cs 0 8 5)) (if rroom 6 (cs 0 8 5) then upd (cs 0 5) ((cs 0 8 5)).toNatClampNeg 0 else (cs 0 5)))) 0 6)))) 0 7) (((upC (upC cs 0 (upR (cs 0) 5 (if rroom 6 (cs 0 8 5) then (cs 0 8 5) + 1 else (cs 0 8 5)) (if rroom 6 (cs 0 8 5) then upd (cs 0 5) ((cs 0 8 5)).toNatClampNeg 0 else (cs 0 5)))) 0 (upR ((upC cs 0 (upR (cs 0) 5 (if rroom 6 (cs 0 8 5) then (cs 0 8 5) + 1 else (cs 0 8 5)) (if rroom 6 (cs 0 8 5) then upd (cs 0 5) ((cs 0 8 5)).toNatClampNeg 0 else (cs 0 5)))) 0) 6 (if rroom 6 ((upC cs 0 (upR (cs 0) 5 (if rroom 6 (cs 0 8 5) then (cs 0 8 5) + 1 else (cs 0 8 5)) (if rroom 6 (cs 0 8 5) then upd (cs 0 5) ((cs 0 8 5)).toNatClampNeg 0 else (cs 0 5)))) 0 8 6) then ((upC cs 0 (upR (cs 0) 5 (if rroom 6 (cs 0 8 5) then (cs 0 8 5) + 1 else (cs 0 8 5)) (if rroom 6 (cs 0 8 5) then upd (cs 0 5) ((cs 0 8 5)).toNatClampNeg 0 else (cs 0 5)))) 0 8 6) + 1 else ((upC cs 0 (upR (cs 0) 5 (if rroom 6 (cs 0 8 5) then (cs 0 8 5) + 1 else (cs 0 8 5)) (if rroom 6 (cs 0 8 5) then upd (cs 0 5) ((cs 0 8 5)).toNatClampNeg 0 else (cs 0 5)))) 0 8 6)) (if rroom 6 ((upC cs 0 (upR (cs 0) 5 (if rroom 6 (cs 0 8 5) then (cs 0 8 5) + 1 else (cs 0 8 5)) (if rroom 6 (cs 0 8 5) then upd (cs 0 5) ((cs 0 8 5)).toNatClampNeg 0 else (cs 0 5)))) 0 8 6) then upd ((upC cs 0 (upR (cs 0) 5 (if rroom 6 (cs 0 8 5) then (cs 0 8 5) + 1 else (cs 0 8 5)) (if rroom 6 (cs 0 8 5) then upd (cs 0 5) ((cs 0 8 5)).toNatClampNeg 0 else (cs 0 5)))) 0 6) (((upC cs 0 (upR (cs 0) 5 (if rroom 6 (cs 0 8 5) then (cs 0 8 5) + 1 else (cs 0 8 5)) (if rroom 6 (cs 0 8 5) then upd (cs 0 5) ((cs 0 8 5)).toNatClampNeg 0 else (cs 0 5)))) 0 8 6)).toNatClampNeg 0 else ((upC cs 0 (upR (cs 0) 5 (if rroom 6 (cs 0 8 5) then (cs 0 8 5) + 1 else (cs 0 8 5)) (if rroom 6 (cs 0 8 5) then upd (cs 0 5) ((cs 0 8 5)).toNatClampNeg 0 else (cs 0 5)))) 0 6)))) 0 8 7)).toNatClampNeg 0 else ((upC (upC cs 0 (upR (cs 0) 5 (if rroom 6 (cs 0 8 5) then (cs 0 8 5) + 1 else (cs 0 8 5)) (if rroom 6 (cs 0 8 5) then upd (cs 0 5) ((cs 0 8 5)).toNatClampNeg 0 else (cs 0 5)))) 0 (upR ((upC cs 0 (upR (cs 0) 5 (if rroom 6 (cs 0 8 5) then (cs 0 8 5) + 1 else (cs 0 8 5)) (if rroom 6 (cs 0 8 5) then upd (cs 0 5) ((cs 0 8 5)).toNatClampNeg 0 else (cs 0 5)))) 0) 6 (if rroom 6 ((upC cs 0 (upR (cs 0) 5 (if rroom 6 (cs 0 8 5) then (cs 0 8 5) + 1 else (cs 0 8 5)) (if rroom 6 (cs 0 8 5) then upd (cs 0 5) ((cs 0 8 5)).toNatClampNeg 0 else (cs 0 5)))) 0 8 6) then ((upC cs 0 (upR (cs 0) 5 (if rroom 6 (cs 0 8 5) then (cs 0 8 5) + 1 else (cs 0 8 5)) (if rroom 6 (cs 0 8 5) then upd (cs 0 5) ((cs 0 8 5)).toNatClampNeg 0 else (cs 0 5)))) 0 8 6) + 1 else ((upC cs 0 (upR (cs 0) 5 (if rroom 6 (cs 0 8 5) then (cs 0 8 5) + 1 else (cs 0 8 5)) (if rroom 6 (cs 0 8 5) then upd (cs 0 5) ((cs 0 8 5)).toNatClampNeg 0 else (cs 0 5)))) 0 8 6)) (if rroom 6 ((upC cs 0 (upR (cs 0) 5 (if rroom 6 (cs 0 8 5) then (cs 0 8 5) + 1 else (cs 0 8 5)) (if rroom 6 (cs 0 8 5) then upd (cs 0 5) ((cs 0 8 5)).toNatClampNeg 0 else (cs 0 5)))) 0 8 6) then upd ((upC cs 0 (upR (cs 0) 5 (if rroom 6 (cs 0 8 5) then (cs 0 8 5) + 1 else (cs 0 8 5)) (if rroom 6 (cs 0 8 5) then upd (cs 0 5) ((cs 0 8 5)).toNatClampNeg 0 else (cs 0 5)))) 0 6) (((upC cs 0 (upR (cs 0) 5 (if rroom 6 (cs 0 8 5) then (cs 0 8 5) + 1 else (cs 0 8 5)) (if rroom 6 (cs 0 8 5) then upd (cs 0 5) ((cs 0 8 5)).toNatClampNeg 0 else (cs 0 5)))) 0 8 6)).toNatClampNeg 0 else ((upC cs 0 (upR (cs 0) 5 (if rroom 6 (cs 0 8 5) then (cs 0 8 5) + 1 else (cs 0 8 5)) (if rroom 6 (cs 0 8 5) then upd (cs 0 5) ((cs 0 8 5)).toNatClampNeg 0 else (cs 0 5)))) 0 6)))) 0 7)))) 0 8 4) then upd ((upC (upC (upC cs 0 (upR (cs 0) 5 (if rroom 6 (cs 0 8 5) then (cs 0 8 5) + 1 else (cs 0 8 5)) (if rroom 6 (cs 0 8 5) then upd (cs 0 5) ((cs 0 8 5)).toNatClampNeg 0 else (cs 0 5)))) 0 (upR ((upC cs 0 (upR (cs 0) 5 (if rroom 6 (cs 0 8 5) then (cs 0 8 5) + 1 else (cs 0 8 5)) (if rroom 6 (cs 0 8 5) then upd (cs 0 5) ((cs 0 8 5)).toNatClampNeg 0 else (cs 0 5)))) 0) 6 (if rroom 6 ((upC cs 0 (upR (cs 0) 5 (if rroom 6 (cs 0 8 5) then (cs 0 8 5) + 1 else (cs 0 8 5)) (if rroom 6 (cs 0 8 5) then upd (cs 0 5) ((cs 0 8 5)).toNatClampNeg 0 else (cs 0 5)))) 0 8 6) then ((upC cs 0 (upR (cs 0) 5 (if rroom 6 (cs 0 8 5) then (cs 0 8 5) + 1 else (cs 0 8 5)) (if rroom 6 (cs 0 8 5) then upd (cs 0 5) ((cs 0 8 5)).toNatClampNeg 0 else (cs 0 5)))) 0 8 6) + 1 else ((upC cs 0 (upR (cs 0) 5 (if rroom 6 (cs 0 8 5) then (cs 0 8 5) + 1 else (cs 0 8 5)) (if rroom 6 (cs 0 8 5) then upd (cs 0 5) ((cs 0 8 5)).toNatClampNeg 0 else (cs 0 5)))) 0 8 6)) (if rroom 6 ((upC cs 0 (upR (cs 0) 5 (if rroom 6 (cs 0 8 5) then (cs 0 8 5) + 1 else (cs 0 8 5)) (if rroom 6 (cs 0 8 5) then upd (cs 0 5) ((cs 0 8 5)).toNatClampNeg 0 else (cs 0 5)))) 0 8 6) then upd ((upC cs 0 (upR (cs 0) 5 (if rroom 6 (cs 0 8 5) then (cs 0 8 5) + 1 else (cs 0 8 5)) (if rroom 6 (cs 0 8 5) then upd (cs 0 5) ((cs 0 8 5)).toNatClampNeg 0 else (cs 0 5)))) 0 6) (((upC cs 0 (upR (cs 0) 5 (if rroom 6 (cs 0 8 5) then (cs 0 8 5) + 1 else (cs 0 8 5)) (if rroom 6 (cs 0 8 5) then upd (cs 0 5) ((cs 0 8 5)).toNatClampNeg 0 else (cs 0 5)))) 0 8 6)).toNatClampNeg 0 else ((upC cs 0 (upR (cs 0) 5 (if rroom 6 (cs 0 8 5) then (cs 0 8 5) + 1 else (cs 0 8 5)) (if rroom 6 (cs 0 8 5) then upd (cs 0 5) ((cs 0 8 5)).toNatClampNeg 0 else (cs 0 5)))) 0 6)))) 0 (upR ((upC (upC cs 0 (upR (cs 0) 5 (if rroom 6 (cs 0 8 5) then (cs 0 8 5) + 1 else (cs 0 8 5)) (if rroom 6 (cs 0 8 5) then upd (cs 0 5) ((cs 0 8 5)).toNatClampNeg 0 else (cs 0 5)))) 0 (upR ((upC cs 0 (upR (cs 0) 5 (if rroom 6 (cs 0 8 5) then (cs 0 8 5) + 1 else (cs 0 8 5)) (if rroom 6 (cs 0 8 5) then upd (cs 0 5) ((cs 0 8 5)).toNatClampNeg 0 else (cs 0 5)))) 0) 6 (if rroom 6 ((upC cs 0 (upR (cs 0) 5 (if rroom 6 (cs 0 8 5) then (cs 0 8 5) + 1 else (cs 0 8 5)) (if rroom 6 (cs 0 8 5) then upd (cs 0 5) ((cs 0 8 5)).toNatClampNeg 0 else (cs 0 5)))) 0 8 6) then ((upC cs 0 (upR (cs 0) 5 (if rroom 6 (cs 0 8 5) then (cs 0 8 5) + 1 else (cs 0 8 5)) (if rroom 6 (cs 0 8 5) then upd (cs 0 5) ((cs 0 8 5)).toNatClampNeg 0 else (cs 0 5)))) 0 8 6) + 1 else ((upC cs 0 (upR (cs 0) 5 (if rroom 6 (cs 0 8 5) then (cs 0 8 5) + 1 else (cs 0 8 5)) (if rroom 6 (cs 0 8 5) then upd (cs 0 5) ((cs 0 8 5)).toNatClampNeg 0 else (cs 0 5)))) 0 8 6)) (if rroom 6 ((upC cs 0 (upR (cs 0) 5 (if rroom 6 (cs 0 8 5) then (cs 0 8 5) + 1 else (cs 0 8 5)) (if rroom 6 (cs 0 8 5) then upd (cs 0 5) ((cs 0 8 5)).toNatClampNeg 0 else (cs 0 5)))) 0 8 6) then upd ((upC cs 0 (upR (cs 0) 5 (if rroom 6 (cs 0 8 5) then (cs 0 8 5) + 1 else (cs 0 8 5)) (if rroom 6 (cs 0 8 5) then upd (cs 0 5) ((cs 0 8 5)).toNatClampNeg 0 else (cs 0 5)))) 0 6) (((upC cs 0 (upR (cs 0) 5 (if rroom 6 (cs 0 8 5) then (cs 0 8 5) + 1 else (cs 0 8 5)) (if rroom 6 (cs 0 8 5) then upd (cs 0 5) ((cs 0 8 5)).toNatClampNeg 0 else (cs 0 5)))) 0 8 6)).toNatClampNeg 0 else ((upC cs 0 (upR (cs 0) 5 (if rroom 6 (cs 0 8 5) then (cs 0 8 5) + 1 else (cs 0 8 5)) (if rroom 6 (cs 0 8 5) then upd (cs 0 5) ((cs 0 8 5)).toNatClampNeg 0 else (cs 0 5)))) 0 6)))) 0) 7 (if rroom 6 ((upC (upC cs 0 (upR (cs 0) 5 (if rroom 6 (cs 0 8 5) then (cs 0 8 5) + 1 else (cs 0 8 5)) (if rroom 6 (cs 0 8 5) then upd (cs 0 5) ((cs 0 8 5)).toNatClampNeg 0 else (cs 0 5)))) 0 (upR ((upC cs 0 (upR (cs 0) 5 (if rroom 6 (cs 0 8 5) then (cs 0 8 5) + 1 else (cs 0 8 5)) (if rroom 6 (cs 0 8 5) then upd (cs 0 5) ((cs 0 8 5)).toNatClampNeg 0 else (cs 0 5)))) 0) 6 (if rroom 6 ((upC cs 0 (upR (cs 0) 5 (if rroom 6 (cs 0 8 5) then (cs 0 8 5) + 1 else (cs 0 8 5)) (if rroom 6 (cs 0 8 5) then upd (cs 0 5) ((cs 0 8 5)).toNatClampNeg 0 else (cs 0 5)))) 0 8 6) then ((upC cs 0 (upR (cs 0) 5 (if rroom 6 (cs 0 8 5) then (cs 0 8 5) + 1 else (cs 0 8 5)) (if rroom 6 (cs 0 8 5) then upd (cs 0 5) ((cs 0 8 5)).toNatClampNeg 0 else (cs 0 5)))) 0 8 6) + 1 else ((upC cs 0 (upR (cs 0) 5 (if rroom 6 (cs 0 8 5) then (cs 0 8 5) + 1 else (cs 0 8 5)) (if rroom 6 (cs 0 8 5) then upd (cs 0 5) ((cs 0 8 5)).toNatClampNeg 0 else (cs 0 5)))) 0 8 6)) (if rroom 6 ((upC cs 0 (upR (cs 0) 5 (if rroom 6 (cs 0 8 5) then (cs 0 8 5) + 1 else (cs 0 8 5)) (if rroom 6 (cs 0 8 5) then upd (cs 0 5) ((cs 0 8 5)).toNatClampNeg 0 else (cs 0 5)))) 0 8 6) then upd ((upC cs 0 (upR (cs 0) 5 (if rroom 6 (cs 0 8 5) then (cs 0 8 5) + 1 else (cs 0 8 5)) (if rroom 6 (cs 0 8 5) then upd (cs 0 5) ((cs 0 8 5)).toNatClampNeg 0 else (cs 0 5)))) 0 6) (((upC cs 0 (upR (cs 0) 5 (if rroom 6 (cs 0 8 5) then (cs 0 8 5) + 1 else (cs 0 8 5)) (if rroom 6 (cs 0 8 5) then upd (cs 0 5) ((cs 0 8 5)).toNatClampNeg 0 else (cs 0 5)))) 0 8 6)).toNatClampNeg 0 else ((upC cs 0 (upR (cs 0) 5 (if rroom 6 (cs 0 8 5) then (cs 0 8 5) + 1 else (cs 0 8 5)) (if rroom 6 (cs 0 8 5) then upd (cs 0 5) ((cs 0 8 5)).toNatClampNeg 0 else (cs 0 5)))) 0 6)))) 0 8 7) then ((upC (upC cs 0 (upR (cs 0) 5 (if rroom 6 (cs 0 8 5) then (cs 0 8 5) + 1 else (cs 0 8 5)) (if rroom 6 (cs 0 8 5) then upd (cs 0 5) ((cs 0 8 5)).toNatClampNeg 0 else (cs 0 5)))) 0 (upR ((upC cs 0 (upR (cs 0) 5 (if rroom 6 (cs 0 8 5) then (cs 0 8 5) + 1 else (cs 0 8 5)) (if rroom 6 (cs 0 8 5) then upd (cs 0 5) ((cs 0 8 5)).toNatClampNeg 0 else (cs 0 5)))) 0) 6 (if rroom 6 ((upC cs 0 (upR (cs 0) 5 (if rroom 6 (cs 0 8 5) then (cs 0 8 5) + 1 else (cs 0 8 5)) (if rroom 6 (cs 0 8 5) then upd (cs 0 5) ((cs 0 8 5)).toNatClampNeg 0 else (cs 0 5)))) 0 8 6) then ((upC cs 0 (upR (cs 0) 5 (if rroom 6 (cs 0 8 5) then (cs 0 8 5) + 1 else (cs 0 8 5)) (if rroom 6 (cs 0 8 5) then upd (cs 0 5) ((cs 0 8 5)).toNatClampNeg 0 else (cs 0 5)))) 0 8 6) + 1 else ((upC cs 0 (upR (cs 0) 5 (if rroom 6 (cs 0 8 5) then (cs 0 8 5) + 1 else (cs 0 8 5)) (if rroom 6 (cs 0 8 5) then upd (cs 0 5) ((cs 0 8 5)).toNatClampNeg 0 else (cs 0 5)))) 0 8 6)) (if rroom 6 ((upC cs 0 (upR (cs 0) 5 (if rroom 6 (cs 0 8 5) then (cs 0 8 5) + 1 else (cs 0 8 5)) (if rroom 6 (cs 0 8 5) then upd (cs 0 5) ((cs 0 8 5)).toNatClampNeg 0 else (cs 0 5)))) 0 8 6) then upd ((upC cs 0 (upR (cs 0) 5 (if rroom 6 (cs 0 8 5) then (cs 0 8 5) + 1 else (cs 0 8 5)) (if rroom 6 (cs 0 8 5) then upd (cs 0 5) ((cs 0 8 5)).toNatClampNeg 0 else (cs 0 5)))) 0 6) (((upC cs 0 (upR (cs 0) 5 (if rroom 6 (cs 0 8 5) then (cs 0 8 5) + 1 else (cs 0 8 5)) (if rroom 6 (cs 0 8 5) then upd (cs 0 5) ((cs 0 8 5)).toNatClampNeg 0 else (cs 0 5)))) 0 8 6)).toNatClampNeg 0 else ((upC cs 0 (upR (cs 0) 5 (if rroom 6 (cs 0 8 5) then (cs 0 8 5) + 1 else (cs 0 8 5)) (if rroom 6 (cs 0 8 5) then upd (cs 0 5) ((cs 0 8 5)).toNatClampNeg 0 else (cs 0 5)))) 0 6)))) 0 8 7) + 1 else ((upC (upC cs 0 (upR (cs 0) 5 (if rroom 6 (cs 0 8 5) then (cs 0 8 5) + 1 else (cs 0 8 5)) (if rroom 6 (cs 0 8 5) then upd (cs 0 5) ((cs 0 8 5)).toNatClampNeg 0 else (cs 0 5)))) 0 (upR ((upC cs 0 (upR (cs 0) 5 (if rroom 6 (cs 0 8 5) then (cs 0 8 5) + 1 else (cs 0 8 5)) (if rroom 6 (cs 0 8 5) then upd (cs 0 5) ((cs 0 8 5)).toNatClampNeg 0 else (cs 0 5)))) 0) 6 (if rroom 6 ((upC cs 0 (upR (cs 0) 5 (if rroom 6 (cs 0 8 5) then (cs 0 8 5) + 1 else (cs 0 8 5)) (if rroom 6 (cs 0 8 5) then upd (cs 0 5) ((cs 0 8 5)).toNatClampNeg 0 else (cs 0 5)))) 0 8 6) then ((upC cs 0 (upR (cs 0) 5 (if rroom 6 (cs 0 8 5) then (cs 0 8 5) + 1 else (cs 0 8 5)) (if rroom 6 (cs 0 8 5) then upd (cs 0 5) ((cs 0 8 5)).toNatClampNeg 0 else (cs 0 5)))) 0 8 6) + 1 else ((upC cs 0 (upR (cs 0) 5 (if rroom 6 (cs 0 8 5) then (cs 0 8 5) + 1 else (cs 0 8 5)) (if rroom 6 (cs 0 8 5) then upd (cs 0 5) ((cs 0 8 5)).toNatClampNeg 0 else (cs 0 5)))) 0 8 6)) (if rroom 6 ((upC cs 0 (upR (cs 0) 5 (if rroom 6 (cs 0 8 5) then (cs 0 8 5) + 1 else (cs 0 8 5)) (if rroom 6 (cs 0 8 5) then upd (cs 0 5) ((cs 0 8 5)).toNatClampNeg 0 else (cs 0 5)))) 0 8 6) then upd ((upC cs 0 (upR (cs 0) 5 (if rroom 6 (cs 0 8 5) then (cs 0 8 5) + 1 else (cs 0 8 5)) (if rroom 6 (cs 0 8 5) then upd (cs 0 5) ((cs 0 8 5)).toNatClampNeg 0 else (cs 0 5)))) 0 6) (((upC cs 0 (upR (cs 0) 5 (if rroom 6 (cs 0 8 5) then (cs 0 8 5) + 1 else (cs 0 8 5)) (if rroom 6 (cs 0 8 5) then upd (cs 0 5) ((cs 0 8 5)).toNatClampNeg 0 else (cs 0 5)))) 0 8 6)).toNatClampNeg 0 else ((upC cs 0 (upR (cs 0) 5 (if rroom 6 (cs 0 8 5) then (cs 0 8 5) + 1 else (cs 0 8 5)) (if rroom 6 (cs 0 8 5) then upd (cs 0 5) ((cs 0 8 5)).toNatClampNeg 0 else (cs 0 5)))) 0 6)))) 0 8 7)) (if rroom 6 ((upC (upC cs 0 (upR (cs 0) 5 (if rroom 6 (cs 0 8 5) then (cs 0 8 5) + 1 else (cs 0 8 5)) (if rroom 6 (cs 0 8 5) then upd (cs 0 5) ((cs 0 8 5)).toNatClampNeg 0 else (cs 0 5)))) 0 (upR ((upC cs 0 (upR (cs 0) 5 (if rroom 6 (cs 0 8 5) then (cs 0 8 5) + 1 else (cs 0 8 5)) (if rroom 6 (cs 0 8 5) then upd (cs 0 5) ((cs 0 8 5)).toNatClampNeg 0 else (cs 0 5)))) 0) 6 (if rroom 6 ((upC cs 0 (upR (cs 0) 5 (if rroom 6 (cs 0 8 5) then (cs 0 8 5) + 1 else (cs 0 8 5)) (if rroom 6 (cs 0 8 5) then upd (cs 0 5) ((cs 0 8 5)).toNatClampNeg 0 else (cs 0 5)))) 0 8 6) then ((upC cs 0 (upR (cs 0) 5 (if rroom 6 (cs 0 8 5) then (cs 0 8 5) + 1 else (cs 0 8 5)) (if rroom 6 (cs 0 8 5) then upd (cs 0 5) ((cs 0 8 5)).toNatClampNeg 0 else (cs 0 5)))) 0 8 6) + 1 else ((upC cs 0 (upR (cs 0) 5 (if rroom 6 (cs 0 8 5) then (cs 0 8 5) + 1 else (cs 0 8 5)) (if rroom 6 (cs 0 8 5) then upd (cs 0 5) ((cs 0 8 5)).toNatClampNeg 0 else (cs 0 5)))) 0 8 6)) (if rroom 6 ((upC cs 0 (upR (cs 0) 5 (if rroom 6 (cs 0 8 5) then (cs 0 8 5) + 1 else (cs 0 8 5)) (if rroom 6 (cs 0 8 5) then upd (cs 0 5) ((cs 0 8 5)).toNatClampNeg 0 else (cs 0 5)))) 0 8 6) then upd ((upC cs 0 (upR (cs 0) 5 (if rroom 6 (cs 0 8 5) then (cs 0 8 5) + 1 else (cs 0 8 5)) (if rroom 6 (cs 0 8 5) then upd (cs 0 5) ((cs 0 8 5)).toNatClampNeg 0 else (cs 0 5)))) 0 6) (((upC cs 0 (upR (cs 0) 5 (if rroom 6 (cs 0 8 5) then (cs 0 8 5) + 1 else (cs 0 8 5)) (if rroom 6 (cs 0 8 5) then upd (cs 0 5) ((cs 0 8 5)).toNatClampNeg 0 else (cs 0 5)))) 0 8 6)).toNatClampNeg 0 else ((upC cs 0 (upR (cs 0) 5 (if rroom 6 (cs 0 8 5) then (cs 0 8 5) + 1 else (cs 0 8 5)) (if rroom 6 (cs 0 8 5) then upd (cs 0 5) ((cs 0 8 5)).toNatClampNeg 0 else (cs 0 5)))) 0 6)))) 0 8 7) then upd ((upC (upC cs 0 (upR (cs 0) 5 (if rroom 6 (cs 0 8 5) then (cs 0 8 5) + 1 else (cs 0 8 5)) (if rroom 6 (cs 0 8 5) then upd (cs 0 5) ((cs 0 8 5)).toNatClampNeg 0 else (cs 0 5)))) 0 (upR ((upC cs 0 (upR (cs 0) 5 (if rroom 6 (cs 0 8 5) then (cs 0 8 5) + 1 else (cs 0 8 5)) (if rroom 6 (cs 0 8 5) then upd (cs 0 5) ((cs 0 8 5)).toNatClampNeg 0 else (cs 0 5)))) 0) 6 (if rroom 6 ((upC cs 0 (upR (cs 0) 5 (if rroom 6 (cs 0 8 5) then (cs 0 8 5) + 1 else (cs 0 8 5)) (if rroom 6 (cs 0 8 5) then upd (cs 0 5) ((cs 0 8 5)).toNatClampNeg 0 else (cs 0 5)))) 0 8 6) then ((upC cs 0 (upR (cs 0) 5 (if rroom 6 (cs 0 8 5) then (cs 0 8 5) + 1 else (cs 0 8 5)) (if rroom 6 (cs 0 8 5) then upd (cs 0 5) ((cs 0 8 5)).toNatClampNeg 0 else (cs 0 5)))) 0 8 6) + 1 else ((upC cs 0 (upR (cs 0) 5 (if rroom 6 (cs 0 8 5) then (cs 0 8 5) + 1 else (cs 0 8 5)) (if rroom 6 (cs 0 8 5) then upd (cs 0 5) ((cs 0 8 5)).toNatClampNeg 0 else (cs 0 5)))) 0 8 6)) (if rroom 6 ((upC cs 0 (upR (cs 0) 5 (if rroom 6 (cs 0 8 5) then (cs 0 8 5) + 1 else (cs 0 8 5)) (if rroom 6 (cs 0 8 5) then upd (cs 0 5) ((cs 0 8 5)).toNatClampNeg 0 else (cs 0 5)))) 0 8 6) then upd ((upC cs 0 (upR (cs 0) 5 (if rroom 6 (cs 0 8 5) then (cs 0 8 5) + 1 else (cs 0 8 5)) (if rroom 6 (cs 0 8 5) then upd (cs 0 5) ((cs 0 8 5)).toNatClampNeg 0 else (cs 0 5)))) 0 6) (((upC cs 0 (upR (cs 0) 5 (if rroom 6 (cs 0 8 5) then (cs 0 8 5) + 1 else (cs 0 8 5)) (if rroom 6 (cs 0 8 5) then upd (cs 0 5) ((cs 0 8 5)).toNatClampNeg 0 else (cs 0 5)))) 0 8 6)).toNatClampNeg 0 else ((upC cs 0 (upR (cs 0) 5 (if rroom 6 (cs 0 8 5) then (cs 0 8 5) + 1 else (cs 0 8 5)) (if rroom 6 (cs 0 8 5) then upd (cs 0 5) ((cs 0 8 5)).toNatClampNeg 0 else (cs 0 5)))) 0 6)))) 0 7) (((upC (upC cs 0 (upR (cs 0) 5 (if rroom 6 (cs 0 8 5) then (cs 0 8 5) + 1 else (cs 0 8 5)) (if rroom 6 (cs 0 8 5) then upd (cs 0 5) ((cs 0 8 5)).toNatClampNeg 0 else (cs 0 5)))) 0 (upR ((upC cs 0 (upR (cs 0) 5 (if rroom 6 (cs 0 8 5) then (cs 0 8 5) + 1 else (cs 0 8 5)) (if rroom 6 (cs 0 8 5) then upd (cs 0 5) ((cs 0 8 5)).toNatClampNeg 0 else (cs 0 5)))) 0) 6 (if rroom 6 ((upC cs 0 (upR (cs 0) 5 (if rroom 6 (cs 0 8 5) then (cs 0 8 5) + 1 else (cs 0 8 5)) (if rroom 6 (cs 0 8 5) then upd (cs 0 5) ((cs 0 8 5)).toNatClampNeg 0 else (cs 0 5)))) 0 8 6) then ((upC cs 0 (upR (cs 0) 5 (if rroom 6 (cs 0 8 5) then (cs 0 8 5) + 1 else (cs 0 8 5)) (if rroom 6 (cs 0 8 5) then upd (cs 0 5) ((cs 0 8 5)).toNatClampNeg 0 else (cs 0 5)))) 0 8 6) + 1 else ((upC cs 0 (upR (cs 0) 5 (if rroom 6 (cs 0 8 5) then (cs 0 8 5) + 1 else (cs 0 8 5)) (if rroom 6 (cs 0 8 5) then upd (cs 0 5) ((cs 0 8 5)).toNatClampNeg 0 else (cs 0 5)))) 0 8 6)) (if rroom 6 ((upC cs 0 (upR (cs 0) 5 (if rroom 6 (cs 0 8 5) then (cs 0 8 5) + 1 else (cs 0 8 5)) (if rroom 6 (cs 0 8 5) then upd (cs 0 5) ((cs 0 8 5)).toNatClampNeg 0 else (cs 0 5)))) 0 8 6) then upd ((upC cs 0 (upR (cs 0) 5 (if rroom 6 (cs 0 8 5) then (cs 0 8 5) + 1 else (cs 0 8 5)) (if rroom 6 (cs 0 8 5) then upd (cs 0 5) ((cs 0 8 5)).toNatClampNeg 0 else (cs 0 5)))) 0 6) (((upC cs 0 (upR (cs 0) 5 (if rroom 6 (cs 0 8 5) then (cs 0 8 5) + 1 else (cs 0 8 5)) (if rroom 6 (cs 0 8 5) then upd (cs 0 5) ((cs 0 8 5)).toNatClampNeg 0 else (cs 0 5)))) 0 8 6)).toNatClampNeg 0 else ((upC cs 0 (upR (cs 0) 5 (if rroom 6 (cs 0 8 5) then (cs 0 8 5) + 1 else (cs 0 8 5)) (if rroom 6 (cs 0 8 5) then upd (cs 0 5) ((cs 0 8 5)).toNatClampNeg 0 else (cs 0 5)))) 0 6)))) 0 8 7)).toNatClampNeg 0 else ((upC (upC cs 0 (upR (cs 0) 5 (if rroom 6 (cs 0 8 5) then (cs 0 8 5) + 1 else (cs 0 8 5)) (if rroom 6 (cs 0 8 5) then upd (cs 0 5) ((cs 0 8 5)).toNatClampNeg 0 else (cs 0 5)))) 0 (upR ((upC cs 0 (upR (cs 0) 5 (if rroom 6 (cs 0 8 5) then (cs 0 8 5) + 1 else (cs 0 8 5)) (if rroom 6 (cs 0 8 5) then upd (cs 0 5) ((cs 0 8 5)).toNatClampNeg 0 else (cs 0 5)))) 0) 6 (if rroom 6 ((upC cs 0 (upR (cs 0) 5 (if rroom 6 (cs 0 8 5) then (cs 0 8 5) + 1 else (cs 0 8 5)) (if rroom 6 (cs 0 8 5) then upd (cs 0 5) ((cs 0 8 5)).toNatClampNeg 0 else (cs 0 5)))) 0 8 6) then ((upC cs 0 (upR (cs 0) 5 (if rroom 6 (cs 0 8 5) then (cs 0 8 5) + 1 else (cs 0 8 5)) (if rroom 6 (cs 0 8 5) then upd (cs 0 5) ((cs 0 8 5)).toNatClampNeg 0 else (cs 0 5)))) 0 8 6) + 1 else ((upC cs 0 (upR (cs 0) 5 (if rroom 6 (cs 0 8 5) then (cs 0 8 5) + 1 else (cs 0 8 5)) (if rroom 6 (cs 0 8 5) then upd (cs 0 5) ((cs 0 8 5)).toNatClampNeg 0 else (cs 0 5)))) 0 8 6)) (if rroom 6 ((upC cs 0 (upR (cs 0) 5 (if rroom 6 (cs 0 8 5) then (cs 0 8 5) + 1 else (cs 0 8 5)) (if rroom 6 (cs 0 8 5) then upd (cs 0 5) ((cs 0 8 5)).toNatClampNeg 0 else (cs 0 5)))) 0 8 6) then upd ((upC cs 0 (upR (cs 0) 5 (if rroom 6 (cs 0 8 5) then (cs 0 8 5) + 1 else (cs 0 8 5)) (if rroom 6 (cs 0 8 5) then upd (cs 0 5) ((cs 0 8 5)).toNatClampNeg 0 else (cs 0 5)))) 0 6) (((upC cs 0 (upR (cs 0) 5 (if rroom 6 (cs 0 8 5) then (cs 0 8 5) + 1 else (cs 0 8 5)) (if rroom 6 (cs 0 8 5) then upd (cs 0 5) ((cs 0 8 5)).toNatClampNeg 0 else (cs 0 5)))) 0 8 6)).toNatClampNeg 0 else ((upC cs 0 (upR (cs 0) 5 (if rroom 6 (cs 0 8 5) then (cs 0 8 5) + 1 else (cs 0 8 5)) (if rroom 6 (cs 0 8 5) then upd (cs 0 5) ((cs 0 8 5)).toNatClampNeg 0 else (cs 0 5)))) 0 6)))) 0 7)))) 0 4) (((upC (upC (upC cs 0 (upR (cs 0) 5 (if rroom 6 (cs 0 8 5) then (cs 0 8 5) + 1 else (cs 0 8 5)) (if rroom 6 (cs 0 8 5) then upd (cs 0 5) ((cs 0 8 5)).toNatClampNeg 0 else (cs 0 5)))) 0 (upR ((upC cs 0 (upR (cs 0) 5 (if rroom 6 (cs 0 8 5) then (cs 0 8 5) + 1 else (cs 0 8 5)) (if rroom 6 (cs 0 8 5) then upd (cs 0 5) ((cs 0 8 5)).toNatClampNeg 0 else (cs 0 5)))) 0) 6 (if rroom 6 ((upC cs 0 (upR (cs 0) 5 (if rroom 6 (cs 0 8 5) then (cs 0 8 5) + 1 else (cs 0 8 5)) (if rroom 6 (cs 0 8 5) then upd (cs 0 5) ((cs 0 8 5)).toNatClampNeg 0 else (cs 0 5)))) 0 8 6) then ((upC cs 0 (upR (cs 0) 5 (if rroom 6 (cs 0 8 5) then (cs 0 8 5) + 1 else (cs 0 8 5)) (if rroom 6 (cs 0 8 5) then upd (cs 0 5) ((cs 0 8 5)).toNatClampNeg 0 else (cs 0 5)))) 0 8 6) + 1 else ((upC cs 0 (upR (cs 0) 5 (if rroom 6 (cs 0 8 5) then (cs 0 8 5) + 1 else (cs 0 8 5)) (if rroom 6 (cs 0 8 5) then upd (cs 0 5) ((cs 0 8 5)).toNatClampNeg 0 else (cs 0 5)))) 0 8 6)) (if rroom 6 ((upC cs 0 (upR (cs 0) 5 (if rroom 6 (cs 0 8 5) then (cs 0 8 5) + 1 else (cs 0 8 5)) (if rroom 6 (cs 0 8 5) then upd (cs 0 5) ((cs 0 8 5)).toNatClampNeg 0 else (cs 0 5)))) 0 8 6) then upd ((upC cs 0 (upR (cs 0) 5 (if rroom 6 (cs 0 8 5) then (cs 0 8 5) + 1 else (cs 0 8 5)) (if rroom 6 (cs 0 8 5) then upd (cs 0 5) ((cs 0 8 5)).toNatClampNeg 0 else (cs 0 5)))) 0 6) (((upC cs 0 (upR (cs 0) 5 (if rroom 6 (cs 0 8 5) then (cs 0 8 5) + 1 else (cs 0 8 5)) (if rroom 6 (cs 0 8 5) then upd (cs 0 5) ((cs 0 8 5)).toNatClampNeg 0 else (cs 0 5)))) 0 8 6)).toNatClampNeg 0 else ((upC cs 0 (upR (cs 0) 5 (if rroom 6 (cs 0 8 5) then (cs 0 8 5) + 1 else (cs 0 8 5)) (if rroom 6 (cs 0 8 5) then upd (cs 0 5) ((cs 0 8 5)).toNatClampNeg 0 else (cs 0 5)))) 0 6)))) 0 (upR ((upC (upC cs 0 (upR (cs 0) 5 (if rroom 6 (cs 0 8 5) then (cs 0 8 5) + 1 else (cs 0 8 5)) (if rroom 6 (cs 0 8 5) then upd (cs 0 5) ((cs 0 8 5)).toNatClampNeg 0 else (cs 0 5)))) 0 (upR ((upC cs 0 (upR (cs 0) 5 (if rroom 6 (cs 0 8 5) then (cs 0 8 5) + 1 else (cs 0 8 5)) (if rroom 6 (cs 0 8 5) then upd (cs 0 5) ((cs 0 8 5)).toNatClampNeg 0 else (cs 0 5)))) 0) 6 (if rroom 6 ((upC cs 0 (upR (cs 0) 5 (if rroom 6 (cs 0 8 5) then (cs 0 8 5) + 1 else (cs 0 8 5)) (if rroom 6 (cs 0 8 5) then upd (cs 0 5) ((cs 0 8 5)).toNatClampNeg 0 else (cs 0 5)))) 0 8 6) then ((upC cs 0 (upR (cs 0) 5 (if rroom 6 (cs 0 8 5) then (cs 0 8 5) + 1 else (cs 0 8 5)) (if rroom 6 (cs 0 8 5) then upd (cs 0 5) ((cs 0 8 5)).toNatClampNeg 0 else (cs 0 5)))) 0 8 6) + 1 else ((upC cs 0 (upR (cs 0) 5 (if rroom 6 (cs 0 8 5) then (cs 0 8 5) + 1 else (cs 0 8 5)) (if rroom 6 (cs 0 8 5) then upd (cs 0 5) ((cs 0 8 5)).toNatClampNeg 0 else (cs 0 5)))) 0 8 6)) (if rroom 6 ((upC cs 0 (upR (cs 0) 5 (if rroom 6 (cs 0 8 5) then (cs 0 8 5) + 1 else (cs 0 8 5)) (if rroom 6 (cs 0 8 5) then upd (cs 0 5) ((cs 0 8 5)).toNatClampNeg 0 else (cs 0 5)))) 0 8 6) then upd ((upC cs 0 (upR (cs 0) 5 (if rroom 6 (cs 0 8 5) then (cs 0 8 5) + 1 else (cs 0 8 5)) (if rroom 6 (cs 0 8 5) then upd (cs 0 5) ((cs 0 8 5)).toNatClampNeg 0 else (cs 0 5)))) 0 6) (((upC cs 0 (upR (cs 0) 5 (if rroom 6 (cs 0 8 5) then (cs 0 8 5) + 1 else (cs 0 8 5)) (if rroom 6 (cs 0 8 5) then upd (cs 0 5) ((cs 0 8 5)).toNatClampNeg 0 else (cs 0 5)))) 0 8 6)).toNatClampNeg 0 else ((upC cs 0 (upR (cs 0) 5 (if rroom 6 (cs 0 8 5) then (cs 0 8 5) + 1 else (cs 0 8 5)) (if rroom 6 (cs 0 8 5) then upd (cs 0 5) ((cs 0 8 5)).toNatClampNeg 0 else (cs 0 5)))) 0 6)))) 0) 7 (if rroom 6 ((upC (upC cs 0 (upR (cs 0) 5 (if rroom 6 (cs 0 8 5) then (cs 0 8 5) + 1 else (cs 0 8 5)) (if rroom 6 (cs 0 8 5) then upd (cs 0 5) ((cs 0 8 5)).toNatClampNeg 0 else (cs 0 5)))) 0 (upR ((upC cs 0 (upR (cs 0) 5 (if rroom 6 (cs 0 8 5) then (cs 0 8 5) + 1 else (cs 0 8 5)) (if rroom 6 (cs 0 8 5) then upd (cs 0 5) ((cs 0 8 5)).toNatClampNeg 0 else (cs 0 5)))) 0) 6 (if rroom 6 ((upC cs 0 (upR (cs 0) 5 (if rroom 6 (cs 0 8 5) then (cs 0 8 5) + 1 else (cs 0 8 5)) (if rroom 6 (cs 0 8 5) then upd (cs 0 5) ((cs 0 8 5)).toNatClampNeg 0 else (cs 0 5)))) 0 8 6) then ((upC cs 0 (upR (cs 0) 5 (if rroom 6 (cs 0 8 5) then (cs 0 8 5) + 1 else (cs 0 8 5)) (if rroom 6 (cs 0 8 5) then upd (cs 0 5) ((cs 0 8 5)).toNatClampNeg 0 else (cs 0 5)))) 0 8 6) + 1 else ((upC cs 0 (upR (cs 0) 5 (if rroom 6 (cs 0 8 5) then (cs 0 8 5) + 1 else (cs 0 8 5)) (if rroom 6 (cs 0 8 5) then upd (cs 0 5) ((cs 0 8 5)).toNatClampNeg 0 else (cs 0 5)))) 0 8 6)) (if rroom 6 ((upC cs 0 (upR (cs 0) 5 (if rroom 6 (cs 0 8 5) then (cs 0 8 5) + 1 else (cs 0 8 5)) (if rroom 6 (cs 0 8 5) then upd (cs 0 5) ((cs 0 8 5)).toNatClampNeg 0 else (cs 0 5)))) 0 8 6) then upd ((upC cs 0 (upR (cs 0) 5 (if rroom 6 (cs 0 8 5) then (cs 0 8 5) + 1 else (cs 0 8 5)) (if rroom 6 (cs 0 8 5) then upd (cs 0 5) ((cs 0 8 5)).toNatClampNeg 0 else (cs 0 5)))) 0 6) (((upC cs 0 (upR (cs 0) 5 (if rroom 6 (cs 0 8 5) then (cs 0 8 5) + 1 else (cs 0 8 5)) (if rroom 6 (cs 0 8 5) then upd (cs 0 5) ((cs 0 8 5)).toNatClampNeg 0 else (cs 0 5)))) 0 8 6)).toNatClampNeg 0 else ((upC cs 0 (upR (cs 0) 5 (if rroom 6 (cs 0 8 5) then (cs 0 8 5) + 1 else (cs 0 8 5)) (if rroom 6 (cs 0 8 5) then upd (cs 0 5) ((cs 0 8 5)).toNatClampNeg 0 else (cs 0 5)))) 0 6)))) 0 8 7) then ((upC (upC cs 0 (upR (cs 0) 5 (if rroom 6 (cs 0 8 5) then (cs 0 8 5) + 1 else (cs 0 8 5)) (if rroom 6 (cs 0 8 5) then upd (cs 0 5) ((cs 0 8 5)).toNatClampNeg 0 else (cs 0 5)))) 0 (upR ((upC cs 0 (upR (cs 0) 5 (if rroom 6 (cs 0 8 5) then (cs 0 8 5) + 1 else (cs 0 8 5)) (if rroom 6 (cs 0 8 5) then upd (cs 0 5) ((cs 0 8 5)).toNatClampNeg 0 else (cs 0 5)))) 0) 6 (if rroom 6 ((upC cs 0 (upR (cs 0) 5 (if rroom 6 (cs 0 8 5) then (cs 0 8 5) + 1 else (cs 0 8 5)) (if rroom 6 (cs 0 8 5) then upd (cs 0 5) ((cs 0 8 5)).toNatClampNeg 0 else (cs 0 5)))) 0 8 6) then ((upC cs 0 (upR (cs 0) 5 (if rroom 6 (cs 0 8 5) then (cs 0 8 5) + 1 else (cs 0 8 5)) (if rroom 6 (cs 0 8 5) then upd (cs 0 5) ((cs 0 8 5)).toNatClampNeg 0 else (cs 0 5)))) 0 8 6) + 1 else ((upC cs 0 (upR (cs 0) 5 (if rroom 6 (cs 0 8 5) then (cs 0 8 5) + 1 else (cs 0 8 5)) (if rroom 6 (cs 0 8 5) then upd (cs 0 5) ((cs 0 8 5)).toNatClampNeg 0 else (cs 0 5)))) 0 8 6)) (if rroom 6 ((upC cs 0 (upR (cs 0) 5 (if rroom 6 (cs 0 8 5) then (cs 0 8 5) + 1 else (cs 0 8 5)) (if rroom 6 (cs 0 8 5) then upd (cs 0 5) ((cs 0 8 5)).toNatClampNeg 0 else (cs 0 5)))) 0 8 6) then upd ((upC cs 0 (upR (cs 0) 5 (if rroom 6 (cs 0 8 5) then (cs 0 8 5) + 1 else (cs 0 8 5)) (if rroom 6 (cs 0 8 5) then upd (cs 0 5) ((cs 0 8 5)).toNatClampNeg 0 else (cs 0 5)))) 0 6) (((upC cs 0 (upR (cs 0) 5 (if rroom 6 (cs 0 8 5) then (cs 0 8 5) + 1 else (cs 0 8 5)) (if rroom 6 (cs 0 8 5) then upd (cs 0 5) ((cs 0 8 5)).toNatClampNeg 0 else (cs 0 5)))) 0 8 6)).toNatClampNeg 0 else ((upC cs 0 (upR (cs 0) 5 (if rroom 6 (cs 0 8 5) then (cs 0 8 5) + 1 else (cs 0 8 5)) (if rroom 6 (cs 0 8 5) then upd (cs 0 5) ((cs 0 8 5)).toNatClampNeg 0 else (cs 0 5)))) 0 6)))) 0 8 7) + 1 else ((upC (upC cs 0 (upR (cs 0) 5 (if rroom 6 (cs 0 8 5) then (cs 0 8 5) + 1 else (cs 0 8 5)) (if rroom 6 (cs 0 8 5) then upd (cs 0 5) ((cs 0 8 5)).toNatClampNeg 0 else (cs 0 5)))) 0 (upR ((upC cs 0 (upR (cs 0) 5 (if rroom 6 (cs 0 8 5) then (cs 0 8 5) + 1 else (cs 0 8 5)) (if rroom 6 (cs 0 8 5) then upd (cs 0 5) ((cs 0 8 5)).toNatClampNeg 0 else (cs 0 5)))) 0) 6 (if rroom 6 ((upC cs 0 (upR (cs 0) 5 (if rroom 6 (cs 0 8 5) then (cs 0 8 5) + 1 else (cs 0 8 5)) (if rroom 6 (cs 0 8 5) then upd (cs 0 5) ((cs 0 8 5)).toNatClampNeg 0 else (cs 0 5)))) 0 8 6) then ((upC cs 0 (upR (cs 0) 5 (if rroom 6 (cs 0 8 5) then (cs 0 8 5) + 1 else (cs 0 8 5)) (if rroom 6 (cs 0 8 5) then upd (cs 0 5) ((cs 0 8 5)).toNatClampNeg 0 else (cs 0 5)))) 0 8 6) + 1 else ((upC cs 0 (upR (cs 0) 5 (if rroom 6 (cs 0 8 5) then (cs 0 8 5) + 1 else (cs 0 8 5)) (if rroom 6 (cs 0 8 5) then upd (cs 0 5) ((cs 0 8 5)).toNatClampNeg 0 else (cs 0 5)))) 0 8 6)) (if rroom 6 ((upC cs 0 (upR (cs 0) 5 (if rroom 6 (cs 0 8 5) then (cs 0 8 5) + 1 else (cs 0 8 5)) (if rroom 6 (cs 0 8 5) then upd (cs 0 5) ((cs 0 8 5)).toNatClampNeg 0 else (cs 0 5)))) 0 8 6) then upd ((upC cs 0 (upR (cs 0) 5 (if rroom 6 (cs 0 8 5) then (cs 0 8 5) + 1 else (cs 0 8 5)) (if rroom 6 (cs 0 8 5) then upd (cs 0 5) ((cs 0 8 5)).toNatClampNeg 0 else (cs 0 5)))) 0 6) (((upC cs 0 (upR (cs 0) 5 (if rroom 6 (cs 0 8 5) then (cs 0 8 5) + 1 else (cs 0 8 5)) (if rroom 6 (cs 0 8 5) then upd (cs 0 5) ((cs 0 8 5)).toNatClampNeg 0 else (cs 0 5)))) 0 8 6)).toNatClampNeg 0 else ((upC cs 0 (upR (cs 0) 5 (if rroom 6 (cs 0 8 5) then (cs 0 8 5) + 1 else (cs 0 8 5)) (if rroom 6 (cs 0 8 5) then upd (cs 0 5) ((cs 0 8 5)).toNatClampNeg 0 else (cs 0 5)))) 0 6)))) 0 8 7)) (if rroom 6 ((upC (upC cs 0 (upR (cs 0) 5 (if rroom 6 (cs 0 8 5) then (cs 0 8 5) + 1 else (cs 0 8 5)) (if rroom 6 (cs 0 8 5) then upd (cs 0 5) ((cs 0 8 5)).toNatClampNeg 0 else (cs 0 5)))) 0 (upR ((upC cs 0 (upR (cs 0) 5 (if rroom 6 (cs 0 8 5) then (cs 0 8 5) + 1 else (cs 0 8 5)) (if rroom 6 (cs 0 8 5) then upd (cs 0 5) ((cs 0 8 5)).toNatClampNeg 0 else (cs 0 5)))) 0) 6 (if rroom 6 ((upC cs 0 (upR (cs 0) 5 (if rroom 6 (cs 0 8 5) then (cs 0 8 5) + 1 else (cs 0 8 5)) (if rroom 6 (cs 0 8 5) then upd (cs 0 5) ((cs 0 8 5)).toNatClampNeg 0 else (cs 0 5)))) 0 8 6) then ((upC cs 0 (upR (cs 0) 5 (if rroom 6 (cs 0 8 5) then (cs 0 8 5) + 1 else (cs 0 8 5)) (if rroom 6 (cs 0 8 5) then upd (cs 0 5) ((cs 0 8 5)).toNatClampNeg 0 else (cs 0 5)))) 0 8 6) + 1 else ((upC cs 0 (upR (cs 0) 5 (if rroom 6 (cs 0 8 5) then (cs 0 8 5) + 1 else (cs 0 8 5)) (if rroom 6 (cs 0 8 5) then upd (cs 0 5) ((cs 0 8 5)).toNatClampNeg 0 else (cs 0 5)))) 0 8 6)) (if rroom 6 ((upC cs 0 (upR (cs 0) 5 (if rroom 6 (cs 0 8 5) then (cs 0 8 5) + 1 else (cs 0 8 5)) (if rroom 6 (cs 0 8 5) then upd (cs 0 5) ((cs 0 8 5)).toNatClampNeg 0 else (cs 0 5)))) 0 8 6) then upd ((upC cs 0 (upR (cs 0) 5 (if rroom 6 (cs 0 8 5) then (cs 0 8 5) + 1 else (cs 0 8 5)) (if rroom 6 (cs 0 8 5) then upd (cs 0 5) ((cs 0 8 5)).toNatClampNeg 0 else (cs 0 5)))) 0 6) (((upC cs 0 (upR (cs 0) 5 (if rroom 6 (cs 0 8 5) then (cs 0 8 5) + 1 else (cs 0 8 5)) (if rroom 6 (cs 0 8 5) then upd (cs 0 5) ((cs 0 8 5)).toNatClampNeg 0 else (cs 0 5)))) 0 8 6)).toNatClampNeg 0 else ((upC cs 0 (upR (cs 0) 5 (if rroom 6 (cs 0 8 5) then (cs 0 8 5) + 1 else (cs 0 8 5)) (if rroom 6 (cs 0 8 5) then upd (cs 0 5) ((cs 0 8 5)).toNatClampNeg 0 else (cs 0 5)))) 0 6)))) 0 8 7) then upd ((upC (upC cs 0 (upR (cs 0) 5 (if rroom 6 (cs 0 8 5) then (cs 0 8 5) + 1 else (cs 0 8 5)) (if rroom 6 (cs 0 8 5) then upd (cs 0 5) ((cs 0 8 5)).toNatClampNeg 0 else (cs 0 5)))) 0 (upR ((upC cs 0 (upR (cs 0) 5 (if rroom 6 (cs 0 8 5) then (cs 0 8 5) + 1 else (cs 0 8 5)) (if rroom 6 (cs 0 8 5) then upd (cs 0 5) ((cs 0 8 5)).toNatClampNeg 0 else (cs 0 5)))) 0) 6 (if rroom 6 ((upC cs 0 (upR (cs 0) 5 (if rroom 6 (cs 0 8 5) then (cs 0 8 5) + 1 else (cs 0 8 5)) (if rroom 6 (cs 0 8 5) then upd (cs 0 5) ((cs 0 8 5)).toNatClampNeg 0 else (cs 0 5)))) 0 8 6) then ((upC cs 0 (upR (cs 0) 5 (if rroom 6 (cs 0 8 5) then (cs 0 8 5) + 1 else (cs 0 8 5)) (if rroom 6 (cs 0 8 5) then upd (cs 0 5) ((cs 0 8 5)).toNatClampNeg 0 else (cs 0 5)))) 0 8 6) + 1 else ((upC cs 0 (upR (cs 0) 5 (if rroom 6 (cs 0 8 5) then (cs 0 8 5) + 1 else (cs 0 8 5)) (if rroom 6 (cs 0 8 5) then upd (cs 0 5) ((cs 0 8 5)).toNatClampNeg 0 else (cs 0 5)))) 0 8 6)) (if rroom 6 ((upC cs 0 (upR (cs 0) 5 (if rroom 6 (cs 0 8 5) then (cs 0 8 5) + 1 else (cs 0 8 5)) (if rroom 6 (cs 0 8 5) then upd (cs 0 5) ((cs 0 8 5)).toNatClampNeg 0 else (cs 0 5)))) 0 8 6) then upd ((upC cs 0 (upR (cs 0) 5 (if rroom 6 (cs 0 8 5) then (cs 0 8 5) + 1 else (cs 0 8 5)) (if rroom 6 (cs 0 8 5) then upd (cs 0 5) ((cs 0 8 5)).toNatClampNeg 0 else (cs 0 5)))) 0 6) (((upC cs 0 (upR (cs 0) 5 (if rroom 6 (cs 0 8 5) then (cs 0 8 5) + 1 else (cs 0 8 5)) (if rroom 6 (cs 0 8 5) then upd (cs 0 5) ((cs 0 8 5)).toNatClampNeg 0 else (cs 0 5)))) 0 8 6)).toNatClampNeg 0 else ((upC cs 0 (upR (cs 0) 5 (if rroom 6 (cs 0 8 5) then (cs 0 8 5) + 1 else (cs 0 8 5)) (if rroom 6 (cs 0 8 5) then upd (cs 0 5) ((cs 0 8 5)).toNatClampNeg 0 else (cs 0 5)))) 0 6)))) 0 7) (((upC (upC cs 0 (upR (cs 0) 5 (if rroom 6 (cs 0 8 5) then (cs 0 8 5) + 1 else (cs 0 8 5)) (if rroom 6 (cs 0 8 5) then upd (cs 0 5) ((cs 0 8 5)).toNatClampNeg 0 else (cs 0 5)))) 0 (upR ((upC cs 0 (upR (cs 0) 5 (if rroom 6 (cs 0 8 5) then (cs 0 8 5) + 1 else (cs 0 8 5)) (if rroom 6 (cs 0 8 5) then upd (cs 0 5) ((cs 0 8 5)).toNatClampNeg 0 else (cs 0 5)))) 0) 6 (if rroom 6 ((upC cs 0 (upR (cs 0) 5 (if rroom 6 (cs 0 8 5) then (cs 0 8 5) + 1 else (cs 0 8 5)) (if rroom 6 (cs 0 8 5) then upd (cs 0 5) ((cs 0 8 5)).toNatClampNeg 0 else (cs 0 5)))) 0 8 6) then ((upC cs 0 (upR (cs 0) 5 (if rroom 6 (cs 0 8 5) then (cs 0 8 5) + 1 else (cs 0 8 5)) (if rroom 6 (cs 0 8 5) then upd (cs 0 5) ((cs 0 8 5)).toNatClampNeg 0 else (cs 0 5)))) 0 8 6) + 1 else ((upC cs 0 (upR (cs 0) 5 (if rroom 6 (cs 0 8 5) then (cs 0 8 5) + 1 else (cs 0 8 5)) (if rroom 6 (cs 0 8 5) then upd (cs 0 5) ((cs 0 8 5)).toNatClampNeg 0 else (cs 0 5)))) 0 8 6)) (if rroom 6 ((upC cs 0 (upR (cs 0) 5 (if rroom 6 (cs 0 8 5) then (cs 0 8 5) + 1 else (cs 0 8 5)) (if rroom 6 (cs 0 8 5) then upd (cs 0 5) ((cs 0 8 5)).toNatClampNeg 0 else (cs 0 5)))) 0 8 6) then upd ((upC cs 0 (upR (cs 0) 5 (if rroom 6 (cs 0 8 5) then (cs 0 8 5) + 1 else (cs 0 8 5)) (if rroom 6 (cs 0 8 5) then upd (cs 0 5) ((cs 0 8 5)).toNatClampNeg 0 else (cs 0 5)))) 0 6) (((upC cs 0 (upR (cs 0) 5 (if rroom 6 (cs 0 8 5) then (cs 0 8 5) + 1 else (cs 0 8 5)) (if rroom 6 (cs 0 8 5) then upd (cs 0 5) ((cs 0 8 5)).toNatClampNeg 0 else (cs 0 5)))) 0 8 6)).toNatClampNeg 0 else ((upC cs 0 (upR (cs 0) 5 (if rroom 6 (cs 0 8 5) then (cs 0 8 5) + 1 else (cs 0 8 5)) (if rroom 6 (cs 0 8 5) then upd (cs 0 5) ((cs 0 8 5)).toNatClampNeg 0 else (cs 0 5)))) 0 6)))) 0 8 7)).toNatClampNeg 0 else ((upC (upC cs 0 (upR (cs 0) 5 (if rroom 6 (cs 0 8 5) then (cs 0 8 5) + 1 else (cs 0 8 5)) (if rroom 6 (cs 0 8 5) then upd (cs 0 5) ((cs 0 8 5)).toNatClampNeg 0 else (cs 0 5)))) 0 (upR ((upC cs 0 (upR (cs 0) 5 (if rroom 6 (cs 0 8 5) then (cs 0 8 5) + 1 else (cs 0 8 5)) (if rroom 6 (cs 0 8 5) then upd (cs 0 5) ((cs 0 8 5)).toNatClampNeg 0 else (cs 0 5)))) 0) 6 (if rroom 6 ((upC cs 0 (upR (cs 0) 5 (if rroom 6 (cs 0 8 5) then (cs 0 8 5) + 1 else (cs 0 8 5)) (if rroom 6 (cs 0 8 5) then upd (cs 0 5) ((cs 0 8 5)).toNatClampNeg 0 else (cs 0 5)))) 0 8 6) then ((upC cs 0 (upR (cs 0) 5 (if rroom 6 (cs 0 8 5) then (cs 0 8 5) + 1 else (cs 0 8 5)) (if rroom 6 (cs 0 8 5) then upd (cs 0 5) ((cs 0 8 5)).toNatClampNeg 0 else (cs 0 5)))) 0 8 6) + 1 else ((upC cs 0 (upR (cs 0) 5 (if rroom 6 (cs 0 8 5) then (cs 0 8 5) + 1 else (cs 0 8 5)) (if rroom 6 (cs 0 8 5) then upd (cs 0 5) ((cs 0 8 5)).toNatClampNeg 0 else (cs 0 5)))) 0 8 6)) (if rroom 6 ((upC cs 0 (upR (cs 0) 5 (if rroom 6 (cs 0 8 5) then (cs 0 8 5) + 1 else (cs 0 8 5)) (if rroom 6 (cs 0 8 5) then upd (cs 0 5) ((cs 0 8 5)).toNatClampNeg 0 else (cs 0 5)))) 0 8 6) then upd ((upC cs 0 (upR (cs 0) 5 (if rroom 6 (cs 0 8 5) then (cs 0 8 5) + 1 else (cs 0 8 5)) (if rroom 6 (cs 0 8 5) then upd (cs 0 5) ((cs 0 8 5)).toNatClampNeg 0 else (cs 0 5)))) 0 6) (((upC cs 0 (upR (cs 0) 5 (if rroom 6 (cs 0 8 5) then (cs 0 8 5) + 1 else (cs 0 8 5)) (if rroom 6 (cs 0 8 5) then upd (cs 0 5) ((cs 0 8 5)).toNatClampNeg 0 else (cs 0 5)))) 0 8 6)).toNatClampNeg 0 else ((upC cs 0 (upR (cs 0) 5 (if rroom 6 (cs 0 8 5) then (cs 0 8 5) + 1 else (cs 0 8 5)) (if rroom 6 (cs 0 8 5) then upd (cs 0 5) ((cs 0 8 5)).toNatClampNeg 0 else (cs 0 5)))) 0 6)))) 0 7)))) 0 8 4)).toNatClampNeg i else ((upC (upC (upC cs 0 (upR (cs 0) 5 (if rroom 6 (cs 0 8 5) then (cs 0 8 5) + 1 else (cs 0 8 5)) (if rroom 6 (cs 0 8 5) then upd (cs 0 5) ((cs 0 8 5)).toNatClampNeg 0 else (cs 0 5)))) 0 (upR ((upC cs 0 (upR (cs 0) 5 (if rroom 6 (cs 0 8 5) then (cs 0 8 5) + 1 else (cs 0 8 5)) (if rroom 6 (cs 0 8 5) then upd (cs 0 5) ((cs 0 8 5)).toNatClampNeg 0 else (cs 0 5)))) 0) 6 (if rroom 6 ((upC cs 0 (upR (cs 0) 5 (if rroom 6 (cs 0 8 5) then (cs 0 8 5) + 1 else (cs 0 8 5)) (if rroom 6 (cs 0 8 5) then upd (cs 0 5) ((cs 0 8 5)).toNatClampNeg 0 else (cs 0 5)))) 0 8 6) then ((upC cs 0 (upR (cs 0) 5 (if rroom 6 (cs 0 8 5) then (cs 0 8 5) + 1 else (cs 0 8 5)) (if rroom 6 (cs 0 8 5) then upd (cs 0 5) ((cs 0 8 5)).toNatClampNeg 0 else (cs 0 5)))) 0 8 6) + 1 else ((upC cs 0 (upR (cs 0) 5 (if rroom 6 (cs 0 8 5) then (cs 0 8 5) + 1 else (cs 0 8 5)) (if rroom 6 (cs 0 8 5) then upd (cs 0 5) ((cs 0 8 5)).toNatClampNeg 0 else (cs 0 5)))) 0 8 6)) (if rroom 6 ((upC cs 0 (upR (cs 0) 5 (if rroom 6 (cs 0 8 5) then (cs 0 8 5) + 1 else (cs 0 8 5)) (if rroom 6 (cs 0 8 5) then upd (cs 0 5) ((cs 0 8 5)).toNatClampNeg 0 else (cs 0 5)))) 0 8 6) then upd ((upC cs 0 (upR (cs 0) 5 (if rroom 6 (cs 0 8 5) then (cs 0 8 5) + 1 else (cs 0 8 5)) (if rroom 6 (cs 0 8 5) then upd (cs 0 5) ((cs 0 8 5)).toNatClampNeg 0 else (cs 0 5)))) 0 6) (((upC cs 0 (upR (cs 0) 5 (if rroom 6 (cs 0 8 5) then (cs 0 8 5) + 1 else (cs 0 8 5)) (if rroom 6 (cs 0 8 5) then upd (cs 0 5) ((cs 0 8 5)).toNatClampNeg 0 else (cs 0 5)))) 0 8 6)).toNatClampNeg 0 else ((upC cs 0 (upR (cs 0) 5 (if rroom 6 (cs 0 8 5) then (cs 0 8 5) + 1 else (cs 0 8 5)) (if rroom 6 (cs 0 8 5) then upd (cs 0 5) ((cs 0 8 5)).toNatClampNeg 0 else (cs 0 5)))) 0 6)))) 0 (upR ((upC (upC cs 0 (upR (cs 0) 5 (if rroom 6 (cs 0 8 5) then (cs 0 8 5) + 1 else (cs 0 8 5)) (if rroom 6 (cs 0 8 5) then upd (cs 0 5) ((cs 0 8 5)).toNatClampNeg 0 else (cs 0 5)))) 0 (upR ((upC cs 0 (upR (cs 0) 5 (if rroom 6 (cs 0 8 5) then (cs 0 8 5) + 1 else (cs 0 8 5)) (if rroom 6 (cs 0 8 5) then upd (cs 0 5) ((cs 0 8 5)).toNatClampNeg 0 else (cs 0 5)))) 0) 6 (if rroom 6 ((upC cs 0 (upR (cs 0) 5 (if rroom 6 (cs 0 8 5) then (cs 0 8 5) + 1 else (cs 0 8 5)) (if rroom 6 (cs 0 8 5) then upd (cs 0 5) ((cs 0 8 5)).toNatClampNeg 0 else (cs 0 5)))) 0 8 6) then ((upC cs 0 (upR (cs 0) 5 (if rroom 6 (cs 0 8 5) then (cs 0 8 5) + 1 else (cs 0 8 5)) (if rroom 6 (cs 0 8 5) then upd (cs 0 5) ((cs 0 8 5)).toNatClampNeg 0 else (cs 0 5)))) 0 8 6) + 1 else ((upC cs 0 (upR (cs 0) 5 (if rroom 6 (cs 0 8 5) then (cs 0 8 5) + 1 else (cs 0 8 5)) (if rroom 6 (cs 0 8 5) then upd (cs 0 5) ((cs 0 8 5)).toNatClampNeg 0 else (cs 0 5)))) 0 8 6)) (if rroom 6 ((upC cs 0 (upR (cs 0) 5 (if rroom 6 (cs 0 8 5) then (cs 0 8 5) + 1 else (cs 0 8 5)) (if rroom 6 (cs 0 8 5) then upd (cs 0 5) ((cs 0 8 5)).toNatClampNeg 0 else (cs 0 5)))) 0 8 6) then upd ((upC cs 0 (upR (cs 0) 5 (if rroom 6 (cs 0 8 5) then (cs 0 8 5) + 1 else (cs 0 8 5)) (if rroom 6 (cs 0 8 5) then upd (cs 0 5) ((cs 0 8 5)).toNatClampNeg 0 else (cs 0 5)))) 0 6) (((upC cs 0 (upR (cs 0) 5 (if rroom 6 (cs 0 8 5) then (cs 0 8 5) + 1 else (cs 0 8 5)) (if rroom 6 (cs 0 8 5) then upd (cs 0 5) ((cs 0 8 5)).toNatClampNeg 0 else (cs 0 5)))) 0 8 6)).toNatClampNeg 0 else ((upC cs 0 (upR (cs 0) 5 (if rroom 6 (cs 0 8 5) then (cs 0 8 5) + 1 else (cs 0 8 5)) (if rroom 6 (cs 0 8 5) then upd (cs 0 5) ((cs 0 8 5)).toNatClampNeg 0 else (cs 0 5)))) 0 6)))) 0) 7 (if rroom 6 ((upC (upC cs 0 (upR (cs 0) 5 (if rroom 6 (cs 0 8 5) then (cs 0 8 5) + 1 else (cs 0 8 5)) (if rroom 6 (cs 0 8 5) then upd (cs 0 5) ((cs 0 8 5)).toNatClampNeg 0 else (cs 0 5)))) 0 (upR ((upC cs 0 (upR (cs 0) 5 (if rroom 6 (cs 0 8 5) then (cs 0 8 5) + 1 else (cs 0 8 5)) (if rroom 6 (cs 0 8 5) then upd (cs 0 5) ((cs 0 8 5)).toNatClampNeg 0 else (cs 0 5)))) 0) 6 (if rroom 6 ((upC cs 0 (upR (cs 0) 5 (if rroom 6 (cs 0 8 5) then (cs 0 8 5) + 1 else (cs 0 8 5)) (if rroom 6 (cs 0 8 5) then upd (cs 0 5) ((cs 0 8 5)).toNatClampNeg 0 else (cs 0 5)))) 0 8 6) then ((upC cs 0 (upR (cs 0) 5 (if rroom 6 (cs 0 8 5) then (cs 0 8 5) + 1 else (cs 0 8 5)) (if rroom 6 (cs 0 8 5) then upd (cs 0 5) ((cs 0 8 5)).toNatClampNeg 0 else (cs 0 5)))) 0 8 6) + 1 else ((upC cs 0 (upR (cs 0) 5 (if rroom 6 (cs 0 8 5) then (cs 0 8 5) + 1 else (cs 0 8 5)) (if rroom 6 (cs 0 8 5) then upd (cs 0 5) ((cs 0 8 5)).toNatClampNeg 0 else (cs 0 5)))) 0 8 6)) (if rroom 6 ((upC cs 0 (upR (cs 0) 5 (if rroom 6 (cs 0 8 5) then (cs 0 8 5) + 1 else (cs 0 8 5)) (if rroom 6 (cs 0 8 5) then upd (cs 0 5) ((cs 0 8 5)).toNatClampNeg 0 else (cs 0 5)))) 0 8 6) then upd ((upC cs 0 (upR (cs 0) 5 (if rroom 6 (cs 0 8 5) then (cs 0 8 5) + 1 else (cs 0 8 5)) (if rroom 6 (cs 0 8 5) then upd (cs 0 5) ((cs 0 8 5)).toNatClampNeg 0 else (cs 0 5)))) 0 6) (((upC cs 0 (upR (cs 0) 5 (if rroom 6 (cs 0 8 5) then (cs 0 8 5) + 1 else (cs 0 8 5)) (if rroom 6 (cs 0 8 5) then upd (cs 0 5) ((cs 0 8 5)).toNatClampNeg 0 else (cs 0 5)))) 0 8 6)).toNatClampNeg 0 else ((upC cs 0 (upR (cs 0) 5 (if rroom 6 (cs 0 8 5) then (cs 0 8 5) + 1 else (cs 0 8 5)) (if rroom 6 (cs 0 8 5) then upd (cs 0 5) ((cs 0 8 5)).toNatClampNeg 0 else (cs 0 5)))) 0 6)))) 0 8 7) then ((upC (upC cs 0 (upR (cs 0) 5 (if rroom 6 (cs 0 8 5) then (cs 0 8 5) + 1 else (cs 0 8 5)) (if rroom 6 (cs 0 8 5) then upd (cs 0 5) ((cs 0 8 5)).toNatClampNeg 0 else (cs 0 5)))) 0 (upR ((upC cs 0 (upR (cs 0) 5 (if rroom 6 (cs 0 8 5) then (cs 0 8 5) + 1 else (cs 0 8 5)) (if rroom 6 (cs 0 8 5) then upd (cs 0 5) ((cs 0 8 5)).toNatClampNeg 0 else (cs 0 5)))) 0) 6 (if rroom 6 ((upC cs 0 (upR (cs 0) 5 (if rroom 6 (cs 0 8 5) then (cs 0 8 5) + 1 else (cs 0 8 5)) (if rroom 6 (cs 0 8 5) then upd (cs 0 5) ((cs 0 8 5)).toNatClampNeg 0 else (cs 0 5)))) 0 8 6) then ((upC cs 0 (upR (cs 0) 5 (if rroom 6 (cs 0 8 5) then (cs 0 8 5) + 1 else (cs 0 8 5)) (if rroom 6 (cs 0 8 5) then upd (cs 0 5) ((cs 0 8 5)).toNatClampNeg 0 else (cs 0 5)))) 0 8 6) + 1 else ((upC cs 0 (upR (cs 0) 5 (if rroom 6 (cs 0 8 5) then (cs 0 8 5) + 1 else (cs 0 8 5)) (if rroom 6 (cs 0 8 5) then upd (cs 0 5) ((cs 0 8 5)).toNatClampNeg 0 else (cs 0 5)))) 0 8 6)) (if rroom 6 ((upC cs 0 (upR (cs 0) 5 (if rroom 6 (cs 0 8 5) then (cs 0 8 5) + 1 else (cs 0 8 5)) (if rroom 6 (cs 0 8 5) then upd (cs 0 5) ((cs 0 8 5)).toNatClampNeg 0 else (cs 0 5)))) 0 8 6) then upd ((upC cs 0 (upR (cs 0) 5 (if rroom 6 (cs 0 8 5) then (cs 0 8 5) + 1 else (cs 0 8 5)) (if rroom 6 (cs 0 8 5) then upd (cs 0 5) ((cs 0 8 5)).toNatClampNeg 0 else (cs 0 5)))) 0 6) (((upC cs 0 (upR (cs 0) 5 (if rroom 6 (cs 0 8 5) then (cs 0 8 5) + 1 else (cs 0 8 5)) (if rroom 6 (cs 0 8 5) then upd (cs 0 5) ((cs 0 8 5)).toNatClampNeg 0 else (cs 0 5)))) 0 8 6)).toNatClampNeg 0 else ((upC cs 0 (upR (cs 0) 5 (if rroom 6 (cs 0 8 5) then (cs 0 8 5) + 1 else (cs 0 8 5)) (if rroom 6 (cs 0 8 5) then upd (cs 0 5) ((cs 0 8 5)).toNatClampNeg 0 else (cs 0 5)))) 0 6)))) 0 8 7) + 1 else ((upC (upC cs 0 (upR (cs 0) 5 (if rroom 6 (cs 0 8 5) then (cs 0 8 5) + 1 else (cs 0 8 5)) (if rroom 6 (cs 0 8 5) then upd (cs 0 5) ((cs 0 8 5)).toNatClampNeg 0 else (cs 0 5)))) 0 (upR ((upC cs 0 (upR (cs 0) 5 (if rroom 6 (cs 0 8 5) then (cs 0 8 5) + 1 else (cs 0 8 5)) (if rroom 6 (cs 0 8 5) then upd (cs 0 5) ((cs 0 8 5)).toNatClampNeg 0 else (cs 0 5)))) 0) 6 (if rroom 6 ((upC cs 0 (upR (cs 0) 5 (if rroom 6 (cs 0 8 5) then (cs 0 8 5) + 1 else (cs 0 8 5)) (if rroom 6 (cs 0 8 5) then upd (cs 0 5) ((cs 0 8 5)).toNatClampNeg 0 else (cs 0 5)))) 0 8 6) then ((upC cs 0 (upR (cs 0) 5 (if rroom 6 (cs 0 8 5) then (cs 0 8 5) + 1 else (cs 0 8 5)) (if rroom 6 (cs 0 8 5) then upd (cs 0 5) ((cs 0 8 5)).toNatClampNeg 0 else (cs 0 5)))) 0 8 6) + 1 else ((upC cs 0 (upR (cs 0) 5 (if rroom 6 (cs 0 8 5) then (cs 0 8 5) + 1 else (cs 0 8 5)) (if rroom 6 (cs 0 8 5) then upd (cs 0 5) ((cs 0 8 5)).toNatClampNeg 0 else (cs 0 5)))) 0 8 6)) (if rroom 6 ((upC cs 0 (upR (cs 0) 5 (if rroom 6 (cs 0 8 5) then (cs 0 8 5) + 1 else (cs 0 8 5)) (if rroom 6 (cs 0 8 5) then upd (cs 0 5) ((cs 0 8 5)).toNatClampNeg 0 else (cs 0 5)))) 0 8 6) then upd ((upC cs 0 (upR (cs 0) 5 (if rroom 6 (cs 0 8 5) then (cs 0 8 5) + 1 else (cs 0 8 5)) (if rroom 6 (cs 0 8 5) then upd (cs 0 5) ((cs 0 8 5)).toNatClampNeg 0 else (cs 0 5)))) 0 6) (((upC cs 0 (upR (cs 0) 5 (if rroom 6 (cs 0 8 5) then (cs 0 8 5) + 1 else (cs 0 8 5)) (if rroom 6 (cs 0 8 5) then upd (cs 0 5) ((cs 0 8 5)).toNatClampNeg 0 else (cs 0 5)))) 0 8 6)).toNatClampNeg 0 else ((upC cs 0 (upR (cs 0) 5 (if rroom 6 (cs 0 8 5) then (cs 0 8 5) + 1 else (cs 0 8 5)) (if rroom 6 (cs 0 8 5) then upd (cs 0 5) ((cs 0 8 5)).toNatClampNeg 0 else (cs 0 5)))) 0 6)))) 0 8 7)) (if rroom 6 ((upC (upC cs 0 (upR (cs 0) 5 (if rroom 6 (cs 0 8 5) then (cs 0 8 5) + 1 else (cs 0 8 5)) (if rroom 6 (cs 0 8 5) then upd (cs 0 5) ((cs 0 8 5)).toNatClampNeg 0 else (cs 0 5)))) 0 (upR ((upC cs 0 (upR (cs 0) 5 (if rroom 6 (cs 0 8 5) then (cs 0 8 5) + 1 else (cs 0 8 5)) (if rroom 6 (cs 0 8 5) then upd (cs 0 5) ((cs 0 8 5)).toNatClampNeg 0 else (cs 0 5)))) 0) 6 (if rroom 6 ((upC cs 0 (upR (cs 0) 5 (if rroom 6 (cs 0 8 5) then (cs 0 8 5) + 1 else (cs 0 8 5)) (if rroom 6 (cs 0 8 5) then upd (cs 0 5) ((cs 0 8 5)).toNatClampNeg 0 else (cs 0 5)))) 0 8 6) then ((upC cs 0 (upR (cs 0) 5 (if rroom 6 (cs 0 8 5) then (cs 0 8 5) + 1 else (cs 0 8 5)) (if rroom 6 (cs 0 8 5) then upd (cs 0 5) ((cs 0 8 5)).toNatClampNeg 0 else (cs 0 5)))) 0 8 6) + 1 else ((upC cs 0 (upR (cs 0) 5 (if rroom 6 (cs 0 8 5) then (cs 0 8 5) + 1 else (cs 0 8 5)) (if rroom 6 (cs 0 8 5) then upd (cs 0 5) ((cs 0 8 5)).toNatClampNeg 0 else (cs 0 5)))) 0 8 6)) (if rroom 6 ((upC cs 0 (upR (cs 0) 5 (if rroom 6 (cs 0 8 5) then (cs 0 8 5) + 1 else (cs 0 8 5)) (if rroom 6 (cs 0 8 5) then upd (cs 0 5) ((cs 0 8 5)).toNatClampNeg 0 else (cs 0 5)))) 0 8 6) then upd ((upC cs 0 (upR (cs 0) 5 (if rroom 6 (cs 0 8 5) then (cs 0 8 5) + 1 else (cs 0 8 5)) (if rroom 6 (cs 0 8 5) then upd (cs 0 5) ((cs 0 8 5)).toNatClampNeg 0 else (cs 0 5)))) 0 6) (((upC cs 0 (upR (cs 0) 5 (if rroom 6 (cs 0 8 5) then (cs 0 8 5) + 1 else (cs 0 8 5)) (if rroom 6 (cs 0 8 5) then upd (cs 0 5) ((cs 0 8 5)).toNatClampNeg 0 else (cs 0 5)))) 0 8 6)).toNatClampNeg 0 else ((upC cs 0 (upR (cs 0) 5 (if rroom 6 (cs 0 8 5) then (cs 0 8 5) + 1 else (cs 0 8 5)) (if rroom 6 (cs 0 8 5) then upd (cs 0 5) ((cs 0 8 5)).toNatClampNeg 0 else (cs 0 5)))) 0 6)))) 0 8 7) then upd ((upC (upC cs 0 (upR (cs 0) 5 (if rroom 6 (cs 0 8 5) then (cs 0 8 5) + 1 else (cs 0 8 5)) (if rroom 6 (cs 0 8 5) then upd (cs 0 5) ((cs 0 8 5)).toNatClampNeg 0 else (cs 0 5)))) 0 (upR ((upC cs 0 (upR (cs 0) 5 (if rroom 6 (cs 0 8 5) then (cs 0 8 5) + 1 else (cs 0 8 5)) (if rroom 6 (cs 0 8 5) then upd (cs 0 5) ((cs 0 8 5)).toNatClampNeg 0 else (cs 0 5)))) 0) 6 (if rroom 6 ((upC cs 0 (upR (cs 0) 5 (if rroom 6 (cs 0 8 5) then (cs 0 8 5) + 1 else (cs 0 8 5)) (if rroom 6 (cs 0 8 5) then upd (cs 0 5) ((cs 0 8 5)).toNatClampNeg 0 else (cs 0 5)))) 0 8 6) then ((upC cs 0 (upR (cs 0) 5 (if rroom 6 (cs 0 8 5) then (cs 0 8 5) + 1 else (cs 0 8 5)) (if rroom 6 (cs 0 8 5) then upd (cs 0 5) ((cs 0 8 5)).toNatClampNeg 0 else (cs 0 5)))) 0 8 6) + 1 else ((upC cs 0 (upR (cs 0) 5 (if rroom 6 (cs 0 8 5) then (cs 0 8 5) + 1 else (cs 0 8 5)) (if rroom 6 (cs 0 8 5) then upd (cs 0 5) ((cs 0 8 5)).toNatClampNeg 0 else (cs 0 5)))) 0 8 6)) (if rroom 6 ((upC cs 0 (upR (cs 0) 5 (if rroom 6 (cs 0 8 5) then (cs 0 8 5) + 1 else (cs 0 8 5)) (if rroom 6 (cs 0 8 5) then upd (cs 0 5) ((cs 0 8 5)).toNatClampNeg 0 else (cs 0 5)))) 0 8 6) then upd ((upC cs 0 (upR (cs 0) 5 (if rroom 6 (cs 0 8 5) then (cs 0 8 5) + 1 else (cs 0 8 5)) (if rroom 6 (cs 0 8 5) then upd (cs 0 5) ((cs 0 8 5)).toNatClampNeg 0 else (cs 0 5)))) 0 6) (((upC cs 0 (upR (cs 0) 5 (if rroom 6 (cs 0 8 5) then (cs 0 8 5) + 1 else (cs 0 8 5)) (if rroom 6 (cs 0 8 5) then upd (cs 0 5) ((cs 0 8 5)).toNatClampNeg 0 else (cs 0 5)))) 0 8 6)).toNatClampNeg 0 else ((upC cs 0 (upR (cs 0) 5 (if rroom 6 (cs 0 8 5) then (cs 0 8 5) + 1 else (cs 0 8 5)) (if rroom 6 (cs 0 8 5) then upd (cs 0 5) ((cs 0 8 5)).toNatClampNeg 0 else (cs 0 5)))) 0 6)))) 0 7) (((upC (upC cs 0 (upR (cs 0) 5 (if rroom 6 (cs 0 8 5) then (cs 0 8 5) + 1 else (cs 0 8 5)) (if rroom 6 (cs 0 8 5) then upd (cs 0 5) ((cs 0 8 5)).toNatClampNeg 0 else (cs 0 5)))) 0 (upR ((upC cs 0 (upR (cs 0) 5 (if rroom 6 (cs 0 8 5) then (cs 0 8 5) + 1 else (cs 0 8 5)) (if rroom 6 (cs 0 8 5) then upd (cs 0 5) ((cs 0 8 5)).toNatClampNeg 0 else (cs 0 5)))) 0) 6 (if rroom 6 ((upC cs 0 (upR (cs 0) 5 (if rroom 6 (cs 0 8 5) then (cs 0 8 5) + 1 else (cs 0 8 5)) (if rroom 6 (cs 0 8 5) then upd (cs 0 5) ((cs 0 8 5)).toNatClampNeg 0 else (cs 0 5)))) 0 8 6) then ((upC cs 0 (upR (cs 0) 5 (if rroom 6 (cs 0 8 5) then (cs 0 8 5) + 1 else (cs 0 8 5)) (if rroom 6 (cs 0 8 5) then upd (cs 0 5) ((cs 0 8 5)).toNatClampNeg 0 else (cs 0 5)))) 0 8 6) + 1 else ((upC cs 0 (upR (cs 0) 5 (if rroom 6 (cs 0 8 5) then (cs 0 8 5) + 1 else (cs 0 8 5)) (if rroom 6 (cs 0 8 5) then upd (cs 0 5) ((cs 0 8 5)).toNatClampNeg 0 else (cs 0 5)))) 0 8 6)) (if rroom 6 ((upC cs 0 (upR (cs 0) 5 (if rroom 6 (cs 0 8 5) then (cs 0 8 5) + 1 else (cs 0 8 5)) (if rroom 6 (cs 0 8 5) then upd (cs 0 5) ((cs 0 8 5)).toNatClampNeg 0 else (cs 0 5)))) 0 8 6) then upd ((upC cs 0 (upR (cs 0) 5 (if rroom 6 (cs 0 8 5) then (cs 0 8 5) + 1 else (cs 0 8 5)) (if rroom 6 (cs 0 8 5) then upd (cs 0 5) ((cs 0 8 5)).toNatClampNeg 0 else (cs 0 5)))) 0 6) (((upC cs 0 (upR (cs 0) 5 (if rroom 6 (cs 0 8 5) then (cs 0 8 5) + 1 else (cs 0 8 5)) (if rroom 6 (cs 0 8 5) then upd (cs 0 5) ((cs 0 8 5)).toNatClampNeg 0 else (cs 0 5)))) 0 8 6)).toNatClampNeg 0 else ((upC cs 0 (upR (cs 0) 5 (if rroom 6 (cs 0 8 5) then (cs 0 8 5) + 1 else (cs 0 8 5)) (if rroom 6 (cs 0 8 5) then upd (cs 0 5) ((cs 0 8 5)).toNatClampNeg 0 else (cs 0 5)))) 0 6)))) 0 8 7)).toNatClampNeg 0 else ((upC (upC cs 0 (upR (cs 0) 5 (if rroom 6 (cs 0 8 5) then (cs 0 8 5) + 1 else (cs 0 8 5)) (if rroom 6 (cs 0 8 5) then upd (cs 0 5) ((cs 0 8 5)).toNatClampNeg 0 else (cs 0 5)))) 0 (upR ((upC cs 0 (upR (cs 0) 5 (if rroom 6 (cs 0 8 5) then (cs 0 8 5) + 1 else (cs 0 8 5)) (if rroom 6 (cs 0 8 5) then upd (cs 0 5) ((cs 0 8 5)).toNatClampNeg 0 else (cs 0 5)))) 0) 6 (if rroom 6 ((upC cs 0 (upR (cs 0) 5 (if rroom 6 (cs 0 8 5) then (cs 0 8 5) + 1 else (cs 0 8 5)) (if rroom 6 (cs 0 8 5) then upd (cs 0 5) ((cs 0 8 5)).toNatClampNeg 0 else (cs 0 5)))) 0 8 6) then ((upC cs 0 (upR (cs 0) 5 (if rroom 6 (cs 0 8 5) then (cs 0 8 5) + 1 else (cs 0 8 5)) (if rroom 6 (cs 0 8 5) then upd (cs 0 5) ((cs 0 8 5)).toNatClampNeg 0 else (cs 0 5)))) 0 8 6) + 1 else ((upC cs 0 (upR (cs 0) 5 (if rroom 6 (cs 0 8 5) then (cs 0 8 5) + 1 else (cs 0 8 5)) (if rroom 6 (cs 0 8 5) then upd (cs 0 5) ((cs 0 8 5)).toNatClampNeg 0 else (cs 0 5)))) 0 8 6)) (if rroom 6 ((upC cs 0 (upR (cs 0) 5 (if rroom 6 (cs 0 8 5) then (cs 0 8 5) + 1 else (cs 0 8 5)) (if rroom 6 (cs 0 8 5) then upd (cs 0 5) ((cs 0 8 5)).toNatClampNeg 0 else (cs 0 5)))) 0 8 6) then upd ((upC cs 0 (upR (cs 0) 5 (if rroom 6 (cs 0 8 5) then (cs 0 8 5) + 1 else (cs 0 8 5)) (if rroom 6 (cs 0 8 5) then upd (cs 0 5) ((cs 0 8 5)).toNatClampNeg 0 else (cs 0 5)))) 0 6) (((upC cs 0 (upR (cs 0) 5 (if rroom 6 (cs 0 8 5) then (cs 0 8 5) + 1 else (cs 0 8 5)) (if rroom 6 (cs 0 8 5) then upd (cs 0 5) ((cs 0 8 5)).toNatClampNeg 0 else (cs 0 5)))) 0 8 6)).toNatClampNeg 0 else ((upC cs 0 (upR (cs 0) 5 (if rroom 6 (cs 0 8 5) then (cs 0 8 5) + 1 else (cs 0 8 5)) (if rroom 6 (cs 0 8 5) then upd (cs 0 5) ((cs 0 8 5)).toNatClampNeg 0 else (cs 0 5)))) 0 6)))) 0 7)))) 0 4)))))
      exact k_iret hc hr dX5_bringCamel_82 hM hS (Nat.le_of_ble_eq_true rfl) (Nat.le_of_ble_eq_true rfl) (by first | (simp only [caO, rAdd, rAddV, , eq_true c_4, eq_false c_24, rvC_l, rvC_r, rsC_l, rsC_r, upC_at, upC_upC, not_false_eq_true, not_true_eq_false, and_true, true_and, and_false, false_and, and_self, ↓reduceIte, or_true, true_or, or_self, or_false, false_or]; done) | (simp only [caO, rAdd, rAddV, , eq_true c_4, eq_false c_24, rvC_l, rvC_r, rsC_l, rsC_r, upC_at, upC_upC, not_false_eq_true, not_true_eq_false, and_true, true_and, and_false, false_and, and_self, ↓reduceIte, or_true, true_or, or_self, or_false, false_or]; rfl))
    · skip
      have c_24 := bI_ne.mp c_24
      refine lv_aload_n hx hb dX5_bringCamel_27 rfl (lv_at hl 0 rfl) ?_
      refine lv_iconst (v := 2) hx hb dX5_bringCamel_28 (by decide) ?_
      refine lv_bipush (v := 6) hx hb dX5_bringCamel_29 (by decide) ?_
      refine k_V1 hc [.int 2, .int 6] cw_X5_352 rfl dX5_bringCamel_31 (c_X5_refuse l hlf g _ x cs 2 6 hW) hW.o hM hS hl.1 rfl rfl ⟨Nat.le_of_ble_eq_true rfl, Nat.le_of_ble_eq_true rfl⟩ ⟨Nat.le_of_ble_eq_true rfl, Nat.le_of_ble_eq_true rfl⟩ (Nat.le_of_ble_eq_true rfl) (fun H locs hM hS => ?_)
      have hW := ClsAt.put (g := g) (M := M) (x := x) (cs := (rfS cs 2 6))
      exact k_iret hc hr dX5_bringCamel_34 hM hS (Nat.le_of_ble_eq_true rfl) (Nat.le_of_ble_eq_true rfl) (by first | (simp only [caO, rAdd, rAddV, , eq_true c_4, eq_true c_24, rvC_l, rvC_r, rsC_l, rsC_r, upC_at, upC_upC, not_false_eq_true, not_true_eq_false, and_true, true_and, and_false, false_and, and_self, ↓reduceIte, or_true, true_or, or_self, or_false, false_or]; done) | (simp only [caO, rAdd, rAddV, , eq_true c_4, eq_true c_24, rvC_l, rvC_r, rsC_l, rsC_r, upC_at, upC_upC, not_false_eq_true, not_true_eq_false, and_true, true_and, and_false, false_and, and_self, ↓reduceIte, or_true, true_or, or_self, or_false, false_or]; rfl))
  · skip
    have c_4 := bI_eq.mp c_4
    refine lv_aload_n hx hb dX5_bringCamel_7 rfl (lv_at hl 0 rfl) ?_
    refine lv_iconst (v := 1) hx hb dX5_bringCamel_8 (by decide) ?_
    refine lv_iconst (v := 0) hx hb dX5_bringCamel_9 (by decide) ?_
    refine k_V1 hc [.int 1, .int 0] cw_X5_352 rfl dX5_bringCamel_10 (c_X5_refuse l hlf g _ x cs 1 0 hW) hW.o hM hS hl.1 rfl rfl ⟨Nat.le_of_ble_eq_true rfl, Nat.le_of_ble_eq_true rfl⟩ ⟨Nat.le_of_ble_eq_true rfl, Nat.le_of_ble_eq_true rfl⟩ (Nat.le_of_ble_eq_true rfl) (fun H locs hM hS => ?_)
    have hW := ClsAt.put (g := g) (M := M) (x := x) (cs := (rfS cs 1 0))
    exact k_iret hc hr dX5_bringCamel_13 hM hS (Nat.le_of_ble_eq_true rfl) (Nat.le_of_ble_eq_true rfl) (by first | (simp only [caO, rAdd, rAddV, , eq_false c_4, rvC_l, rvC_r, rsC_l, rsC_r, upC_at, upC_upC, not_false_eq_true, not_true_eq_false, and_true, true_and, and_false, false_and, and_self, ↓reduceIte, or_true, true_or, or_self, or_false, false_or]; done) | (simp only [caO, rAdd, rAddV, , eq_false c_4, rvC_l, rvC_r, rsC_l, rsC_r, upC_at, upC_upC, not_false_eq_true, not_true_eq_false, and_true, true_and, and_false, false_and, and_self, ↓reduceIte, or_true, true_or, or_self, or_false, false_or]; rfl))
set_option maxHeartbeats 4000000 in
set_option maxRecDepth 100000 in
theorem c_X5_ringBell (l : Launch) (hlf : l.stackTraces = false) (g : GC) (M : HM) (x : Nat) (cs : CS) (i : Int32) (hW : ClsAt g M x cs) : KM g l yX5_ringBell cX5_ringBell 4 (some .int) 6 0 0 [.ref x, .int i] M (.inl (some (.int (rvC (rbO (cs 0) i))), (putC g M x (rsC cs (rbO (cs 0) i))))) := by
  refine k_meth hlf (by decide) (Nat.le_of_ble_eq_true rfl) fun p e s m below meth c ls hc hr hnx hM hS hl => ?_
  have hc : Cx g p l s m [.ref x, .int i].toArray meth c cX5_ringBell 4 RX5 := hc
  have hx := hc.1
  have hb := hc.2.1
  have hl : lv_has ls 4 [(0, .ref x), (1, .int i)] := hl
  refine lv_iload_n hx hb dX5_ringBell_0 rfl (lv_at hl 1 rfl) ?_
  refine k_S1 hc [.int i] cw_X5_215 dX5_ringBell_1 (c_X5_isPlace l hlf g _ i) hM hS hl.1 rfl rfl ⟨Nat.le_of_ble_eq_true rfl, Nat.le_of_ble_eq_true rfl⟩ ⟨Nat.le_of_ble_eq_true rfl, Nat.le_of_ble_eq_true rfl⟩ (Nat.le_of_ble_eq_true rfl) (fun H locs hM hS => ?_)
  refine lv_if_ne (tgt := 14) hx hb dX5_ringBell_4 (by decide) (fun c_4 => ?_) (fun c_4 => ?_)
  · skip
    have c_4 := bI_ne.mp c_4
    refine lv_iconst (v := 0) hx hb dX5_ringBell_14 (by decide) ?_
    refine lv_istore_n (lv' := [(2, .int 0), (0, .ref x), (1, .int i)]) hx hb dX5_ringBell_15 rfl hl (by decide) rfl (fun ls hl => ?_)
    refine lv_iconst (v := 0) hx hb dX5_ringBell_16 (by decide) ?_
    refine lv_istore_n (lv' := [(3, .int 0), (2, .int 0), (0, .ref x), (1, .int i)]) hx hb dX5_ringBell_17 rfl hl (by decide) rfl (fun ls hl => ?_)
    have lp_18 : ∀ (D k : Nat), ((cs 0 8 4).toNatClampNeg) - k < D → k ≤ (cs 0 8 4).toNatClampNeg → ∀ (ls : Array Slot) (H : Heap) (locs : List Loc), hR g (putC g M x (upC cs 0 (itr (rbS i) (0, (cs 0)) k).2)) H → va_S (gA g) s.heap H locs → lv_has ls 4 [(3, .int (nI k)), (2, .int (itr (rbS i) (0, (cs 0)) k).1), (0, .ref x), (1, .int i)] → W p l e (rmOf 6 0 0) s m [.ref x, .int i].toArray below meth c H locs 0 0 (vx_MQ below (KQ g (.inl (some (.int (rvC (rbO (cs 0) i))), (putC g M x (rsC cs (rbO (cs 0) i)))))) (KX g (.inl (some (.int (rvC (rbO (cs 0) i))), (putC g M x (rsC cs (rbO (cs 0) i)))))) [.ref x, .int i].toArray s 0 0 (gA g)) (F0 m 18 ls []) := by
      intro D
      induction D with
      | zero => intro k hD; exact absurd hD (Nat.not_lt_zero _)
      | succ D ih_18 =>
        intro k hD hk ls H locs hM hS hl
        have hW := ClsAt.put (g := g) (M := M) (x := x) (cs := (upC cs 0 (itr (rbS i) (0, (cs 0)) k).2))
        refine lv_iload_n hx hb dX5_ringBell_18 rfl (lv_at hl 0 rfl) ?_
        refine lv_aload_n hx hb dX5_ringBell_19 rfl (lv_at hl 2 rfl) ?_
        refine gt_X5_10 hc dX5_ringBell_20 hM hW.o rfl ?_
        refine gt_X5_137 hc dX5_ringBell_23 hM (hW.flat (k := 0) (a := x + 1) (by decide) rfl).o rfl ?_
        refine k_V1 hc [] cw_X5_171 rfl dX5_ringBell_26 (c_X3_size l hlf g _ (x + 10) 6 ((upC cs 0 (itr (rbS i) (0, (cs 0)) k).2) 0 8 4) ((upC cs 0 (itr (rbS i) (0, (cs 0)) k).2) 0 4) ((hW.flat (k := 0) (a := x + 1) (by decide) rfl).row (k := 4) (r := x + 10) (by decide) rfl rfl)) ((hW.flat (k := 0) (a := x + 1) (by decide) rfl).row (k := 4) (r := x + 10) (by decide) rfl rfl).1 hM hS hl.1 rfl rfl ⟨Nat.le_of_ble_eq_true rfl, Nat.le_of_ble_eq_true rfl⟩ ⟨Nat.le_of_ble_eq_true rfl, Nat.le_of_ble_eq_true rfl⟩ (Nat.le_of_ble_eq_true rfl) (fun H locs hM hS => ?_)
        refine lv_icmp_ge (tgt := 70) hx hb dX5_ringBell_29 (by decide) (fun c_29 => ?_) (fun c_29 => ?_)
        · skip
          rw [rb_8] at c_29
          have c_29 := (k_le (by have := k_clamp_lt (cs 0 8 4); omega)).mp c_29
          refine lv_iload_n hx hb dX5_ringBell_70 rfl (lv_at hl 1 rfl) ?_
          exact k_iret hc hr dX5_ringBell_71 hM hS (Nat.le_of_ble_eq_true rfl) (Nat.le_of_ble_eq_true rfl) (by rw [show k = (cs 0 8 4).toNatClampNeg by omega]; simp only [rbO, eq_true c_4, eq_true c_29, not_false_eq_true, not_true_eq_false, and_true, true_and, and_false, false_and, and_self, ↓reduceIte, or_true, true_or, or_self, or_false, false_or]; rfl)
        · skip
          rw [rb_8] at c_29
          have c_29 : ¬ (cs 0 8 4).toNatClampNeg ≤ k := fun h => c_29 ((k_le (by have := k_clamp_lt (cs 0 8 4); omega)).mpr h)
          refine lv_aload_n hx hb dX5_ringBell_32 rfl (lv_at hl 2 rfl) ?_
          refine gt_X5_10 hc dX5_ringBell_33 hM hW.o rfl ?_
          refine lv_iload_n hx hb dX5_ringBell_36 rfl (lv_at hl 0 rfl) ?_
          refine lv_iload_n hx hb dX5_ringBell_37 rfl (lv_at hl 3 rfl) ?_
          refine k_V0 hc [.int (nI k), .int i] cw_X5_374 rfl dX5_ringBell_38 (c_X0_callCamel l hlf g _ (x + 1) ((upC cs 0 (itr (rbS i) (0, (cs 0)) k).2) 0) (nI k) i (hW.flat (k := 0) (a := x + 1) (by decide) rfl)) (hW.flat (k := 0) (a := x + 1) (by decide) rfl).o hM hS hl.1 rfl rfl ⟨Nat.le_of_ble_eq_true rfl, Nat.le_of_ble_eq_true rfl⟩ ⟨Nat.le_of_ble_eq_true rfl, Nat.le_of_ble_eq_true rfl⟩ (Nat.le_of_ble_eq_true rfl) (fun H locs hM hS => ?_)
          have hM := hR.eq hM (putC_flat hW (k := 0) (by decide) rfl)
          have hM := hR.eq hM putC_putC
          have hW := ClsAt.put (g := g) (M := M) (x := x) (cs := (upC (upC cs 0 (itr (rbS i) (0, (cs 0)) k).2) 0 (callF ((upC cs 0 (itr (rbS i) (0, (cs 0)) k).2) 0) (nI k) i)))
          refine lv_iload_n hx hb dX5_ringBell_41 rfl (lv_at hl 1 rfl) ?_
          refine lv_aload_n hx hb dX5_ringBell_42 rfl (lv_at hl 2 rfl) ?_
          refine gt_X5_10 hc dX5_ringBell_43 hM hW.o rfl ?_
          refine gt_X5_137 hc dX5_ringBell_46 hM (hW.flat (k := 0) (a := x + 1) (by decide) rfl).o rfl ?_
          refine lv_iload_n hx hb dX5_ringBell_49 rfl (lv_at hl 0 rfl) ?_
          refine k_V1 hc [.int (nI k)] cw_X5_120 rfl dX5_ringBell_50 (c_X3_get l hlf g _ (x + 10) 6 ((upC (upC cs 0 (itr (rbS i) (0, (cs 0)) k).2) 0 (callF ((upC cs 0 (itr (rbS i) (0, (cs 0)) k).2) 0) (nI k) i)) 0 8 4) ((upC (upC cs 0 (itr (rbS i) (0, (cs 0)) k).2) 0 (callF ((upC cs 0 (itr (rbS i) (0, (cs 0)) k).2) 0) (nI k) i)) 0 4) (nI k) ((hW.flat (k := 0) (a := x + 1) (by decide) rfl).row (k := 4) (r := x + 10) (by decide) rfl rfl) (by decide)) ((hW.flat (k := 0) (a := x + 1) (by decide) rfl).row (k := 4) (r := x + 10) (by decide) rfl rfl).1 hM hS hl.1 rfl rfl ⟨Nat.le_of_ble_eq_true rfl, Nat.le_of_ble_eq_true rfl⟩ ⟨Nat.le_of_ble_eq_true rfl, Nat.le_of_ble_eq_true rfl⟩ (Nat.le_of_ble_eq_true rfl) (fun H locs hM hS => ?_)
          refine lv_iload_n hx hb dX5_ringBell_53 rfl (lv_at hl 3 rfl) ?_
          refine lv_icmp_ne (tgt := 61) hx hb dX5_ringBell_54 (by decide) (fun c_54 => ?_) (fun c_54 => ?_)
          · skip
            simp only [upC_at, upC_upC] at c_54
            refine lv_iconst (v := 0) hx hb dX5_ringBell_61 (by decide) ?_
            refine lv_iadd hx hb dX5_ringBell_62 ?_
            refine lv_istore_n (lv' := [(2, .int ((itr (rbS i) (0, (cs 0)) k).1 + 0)), (3, .int (nI k)), (0, .ref x), (1, .int i)]) hx hb dX5_ringBell_63 rfl hl (by decide) rfl (fun ls hl => ?_)
            refine lv_iinc (v := (nI (k + 1))) (lv' := [(3, .int (nI (k + 1))), (2, .int ((itr (rbS i) (0, (cs 0)) k).1 + 0)), (0, .ref x), (1, .int i)]) hx hb dX5_ringBell_64 hl (k := 1) rfl (k_inc1 _) (by decide) rfl (fun ls hl => ?_)
            refine lv_goto (tgt := 18) hx hb dX5_ringBell_67 (by decide) ?_
            have z_2 : ((itr (rbS i) (0, (cs 0)) k).1 + 0) = (itr (rbS i) (0, (cs 0)) (k + 1)).1 := (by rw [itr_s]; simp only [rbS, eq_true c_4, eq_false c_29, eq_false c_54, not_false_eq_true, not_true_eq_false, and_true, true_and, and_false, false_and, and_self, ↓reduceIte, or_true, true_or, or_self, or_false, false_or])
            have hl := lv_chg (lv_sub hl [1, 0, 2, 3] rfl) z_2
            have hM : hR g (putC g M x (upC cs 0 (itr (rbS i) (0, (cs 0)) (k + 1)).2)) _ := hR.eq hM (congrArg (putC g M x) (by rw [upC_upC, upC_at, itr_s]; rfl))
            exact ih_18 (k + 1) (by omega) (by omega) ls _ _ hM hS (lv_sub hl [1, 0, 2, 3] rfl)
          · skip
            simp only [upC_at, upC_upC] at c_54
            refine lv_iconst (v := 1) hx hb dX5_ringBell_57 (by decide) ?_
            refine lv_goto (tgt := 62) hx hb dX5_ringBell_58 (by decide) ?_
            refine lv_iadd hx hb dX5_ringBell_62 ?_
            refine lv_istore_n (lv' := [(2, .int ((itr (rbS i) (0, (cs 0)) k).1 + 1)), (3, .int (nI k)), (0, .ref x), (1, .int i)]) hx hb dX5_ringBell_63 rfl hl (by decide) rfl (fun ls hl => ?_)
            refine lv_iinc (v := (nI (k + 1))) (lv' := [(3, .int (nI (k + 1))), (2, .int ((itr (rbS i) (0, (cs 0)) k).1 + 1)), (0, .ref x), (1, .int i)]) hx hb dX5_ringBell_64 hl (k := 1) rfl (k_inc1 _) (by decide) rfl (fun ls hl => ?_)
            refine lv_goto (tgt := 18) hx hb dX5_ringBell_67 (by decide) ?_
            have z_2 : ((itr (rbS i) (0, (cs 0)) k).1 + 1) = (itr (rbS i) (0, (cs 0)) (k + 1)).1 := (by rw [itr_s]; simp only [rbS, eq_true c_4, eq_false c_29, eq_true c_54, not_false_eq_true, not_true_eq_false, and_true, true_and, and_false, false_and, and_self, ↓reduceIte, or_true, true_or, or_self, or_false, false_or])
            have hl := lv_chg (lv_sub hl [1, 0, 2, 3] rfl) z_2
            have hM : hR g (putC g M x (upC cs 0 (itr (rbS i) (0, (cs 0)) (k + 1)).2)) _ := hR.eq hM (congrArg (putC g M x) (by rw [upC_upC, upC_at, itr_s]; rfl))
            exact ih_18 (k + 1) (by omega) (by omega) ls _ _ hM hS (lv_sub hl [1, 0, 2, 3] rfl)
    have z_3 : 0 = (nI 0) := rfl
    have hl := lv_chg (lv_sub hl [0, 1, 2, 3] rfl) z_3
    have z_2 : 0 = (itr (rbS i) (0, (cs 0)) 0).1 := rfl
    have hl := lv_chg (lv_sub hl [1, 0, 2, 3] rfl) z_2
    have hM : hR g (putC g M x (upC cs 0 (itr (rbS i) (0, (cs 0)) 0).2)) _ := hR.eq hM ((congrArg (putC g M x) upC_id).trans (putC_same hW)).symm
    exact lp_18 ((cs 0 8 4).toNatClampNeg + 1) 0 (by omega) (by omega) ls _ _ hM hS (lv_sub hl [1, 0, 2, 3] rfl)
  · skip
    have c_4 := bI_eq.mp c_4
    refine lv_aload_n hx hb dX5_ringBell_7 rfl (lv_at hl 0 rfl) ?_
    refine lv_iconst (v := 1) hx hb dX5_ringBell_8 (by decide) ?_
    refine lv_iconst (v := 0) hx hb dX5_ringBell_9 (by decide) ?_
    refine k_V1 hc [.int 1, .int 0] cw_X5_352 rfl dX5_ringBell_10 (c_X5_refuse l hlf g _ x cs 1 0 hW) hW.o hM hS hl.1 rfl rfl ⟨Nat.le_of_ble_eq_true rfl, Nat.le_of_ble_eq_true rfl⟩ ⟨Nat.le_of_ble_eq_true rfl, Nat.le_of_ble_eq_true rfl⟩ (Nat.le_of_ble_eq_true rfl) (fun H locs hM hS => ?_)
    have hW := ClsAt.put (g := g) (M := M) (x := x) (cs := (rfS cs 1 0))
    exact k_iret hc hr dX5_ringBell_13 hM hS (Nat.le_of_ble_eq_true rfl) (Nat.le_of_ble_eq_true rfl) (by first | (simp only [rbO, , eq_false c_4, rvC_l, rvC_r, rsC_l, rsC_r, upC_at, upC_upC, not_false_eq_true, not_true_eq_false, and_true, true_and, and_false, false_and, and_self, ↓reduceIte, or_true, true_or, or_self, or_false, false_or]; done) | (simp only [rbO, , eq_false c_4, rvC_l, rvC_r, rsC_l, rsC_r, upC_at, upC_upC, not_false_eq_true, not_true_eq_false, and_true, true_and, and_false, false_and, and_self, ↓reduceIte, or_true, true_or, or_self, or_false, false_or]; rfl))
set_option maxHeartbeats 4000000 in
set_option maxRecDepth 100000 in
theorem c_X5_tieCamel (l : Launch) (hlf : l.stackTraces = false) (g : GC) (M : HM) (x : Nat) (cs : CS) (i : Int32) (hW : ClsAt g M x cs) : KM g l yX5_tieCamel cX5_tieCamel 3 (some .int) 6 0 0 [.ref x, .int i] M (.inl (some (.int (rvC (tiO (cs 0) i))), (putC g M x (rsC cs (tiO (cs 0) i))))) := by
  refine k_meth hlf (by decide) (Nat.le_of_ble_eq_true rfl) fun p e s m below meth c ls hc hr hnx hM hS hl => ?_
  have hc : Cx g p l s m [.ref x, .int i].toArray meth c cX5_tieCamel 3 RX5 := hc
  have hx := hc.1
  have hb := hc.2.1
  have hl : lv_has ls 3 [(0, .ref x), (1, .int i)] := hl
  refine lv_aload_n hx hb dX5_tieCamel_0 rfl (lv_at hl 0 rfl) ?_
  refine gt_X5_10 hc dX5_tieCamel_1 hM hW.o rfl ?_
  refine gt_X5_137 hc dX5_tieCamel_4 hM (hW.flat (k := 0) (a := x + 1) (by decide) rfl).o rfl ?_
  refine lv_iload_n hx hb dX5_tieCamel_7 rfl (lv_at hl 1 rfl) ?_
  refine k_V1 hc [.int i] cw_X5_362 rfl dX5_tieCamel_8 (c_X3_has l hlf g _ (x + 10) 6 (cs 0 8 4) (cs 0 4) i ((hW.flat (k := 0) (a := x + 1) (by decide) rfl).row (k := 4) (r := x + 10) (by decide) rfl rfl)) ((hW.flat (k := 0) (a := x + 1) (by decide) rfl).row (k := 4) (r := x + 10) (by decide) rfl rfl).1 hM hS hl.1 rfl rfl ⟨Nat.le_of_ble_eq_true rfl, Nat.le_of_ble_eq_true rfl⟩ ⟨Nat.le_of_ble_eq_true rfl, Nat.le_of_ble_eq_true rfl⟩ (Nat.le_of_ble_eq_true rfl) (fun H locs hM hS => ?_)
  refine lv_if_ne (tgt := 21) hx hb dX5_tieCamel_11 (by decide) (fun c_11 => ?_) (fun c_11 => ?_)
  · skip
    have c_11 := bI_ne.mp c_11
    refine lv_aload_n hx hb dX5_tieCamel_21 rfl (lv_at hl 0 rfl) ?_
    refine gt_X5_10 hc dX5_tieCamel_22 hM hW.o rfl ?_
    refine lv_iload_n hx hb dX5_tieCamel_25 rfl (lv_at hl 1 rfl) ?_
    refine k_V1 hc [.int i] cw_X5_146 rfl dX5_tieCamel_26 (c_X0_isLost l hlf g _ (x + 1) (cs 0) i (hW.flat (k := 0) (a := x + 1) (by decide) rfl)) (hW.flat (k := 0) (a := x + 1) (by decide) rfl).o hM hS hl.1 rfl rfl ⟨Nat.le_of_ble_eq_true rfl, Nat.le_of_ble_eq_true rfl⟩ ⟨Nat.le_of_ble_eq_true rfl, Nat.le_of_ble_eq_true rfl⟩ (Nat.le_of_ble_eq_true rfl) (fun H locs hM hS => ?_)
    refine lv_if_eq (tgt := 50) hx hb dX5_tieCamel_29 (by decide) (fun c_29 => ?_) (fun c_29 => ?_)
    · skip
      have c_29 := bI_eq.mp c_29
      refine lv_aload_n hx hb dX5_tieCamel_50 rfl (lv_at hl 0 rfl) ?_
      refine gt_X5_10 hc dX5_tieCamel_51 hM hW.o rfl ?_
      refine gt_X5_143 hc dX5_tieCamel_54 hM (hW.flat (k := 0) (a := x + 1) (by decide) rfl).o rfl ?_
      refine lv_iload_n hx hb dX5_tieCamel_57 rfl (lv_at hl 1 rfl) ?_
      refine k_V1 hc [.int i] cw_X5_120 rfl dX5_tieCamel_58 (c_X3_get l hlf g _ (x + 14) 6 (cs 0 8 6) (cs 0 6) i ((hW.flat (k := 0) (a := x + 1) (by decide) rfl).row (k := 6) (r := x + 14) (by decide) rfl rfl) (by decide)) ((hW.flat (k := 0) (a := x + 1) (by decide) rfl).row (k := 6) (r := x + 14) (by decide) rfl rfl).1 hM hS hl.1 rfl rfl ⟨Nat.le_of_ble_eq_true rfl, Nat.le_of_ble_eq_true rfl⟩ ⟨Nat.le_of_ble_eq_true rfl, Nat.le_of_ble_eq_true rfl⟩ (Nat.le_of_ble_eq_true rfl) (fun H locs hM hS => ?_)
      refine lv_iconst (v := 1) hx hb dX5_tieCamel_61 (by decide) ?_
      refine lv_icmp_ne (tgt := 73) hx hb dX5_tieCamel_62 (by decide) (fun c_62 => ?_) (fun c_62 => ?_)
      · skip
        refine lv_aload_n hx hb dX5_tieCamel_73 rfl (lv_at hl 0 rfl) ?_
        refine gt_X5_10 hc dX5_tieCamel_74 hM hW.o rfl ?_
        refine lv_aload_n hx hb dX5_tieCamel_77 rfl (lv_at hl 0 rfl) ?_
        refine gt_X5_10 hc dX5_tieCamel_78 hM hW.o rfl ?_
        refine gt_X5_137 hc dX5_tieCamel_81 hM (hW.flat (k := 0) (a := x + 1) (by decide) rfl).o rfl ?_
        refine lv_iload_n hx hb dX5_tieCamel_84 rfl (lv_at hl 1 rfl) ?_
        refine k_V1 hc [.int i] cw_X5_120 rfl dX5_tieCamel_85 (c_X3_get l hlf g _ (x + 10) 6 (cs 0 8 4) (cs 0 4) i ((hW.flat (k := 0) (a := x + 1) (by decide) rfl).row (k := 4) (r := x + 10) (by decide) rfl rfl) (by decide)) ((hW.flat (k := 0) (a := x + 1) (by decide) rfl).row (k := 4) (r := x + 10) (by decide) rfl rfl).1 hM hS hl.1 rfl rfl ⟨Nat.le_of_ble_eq_true rfl, Nat.le_of_ble_eq_true rfl⟩ ⟨Nat.le_of_ble_eq_true rfl, Nat.le_of_ble_eq_true rfl⟩ (Nat.le_of_ble_eq_true rfl) (fun H locs hM hS => ?_)
        refine k_V1 hc [.int (rget 6 (cs 0 8 4) (cs 0 4) i)] cw_X5_378 rfl dX5_tieCamel_88 (c_X0_farToPost l hlf g _ (x + 1) (cs 0) (rget 6 (cs 0 8 4) (cs 0 4) i) (hW.flat (k := 0) (a := x + 1) (by decide) rfl)) (hW.flat (k := 0) (a := x + 1) (by decide) rfl).o hM hS hl.1 rfl rfl ⟨Nat.le_of_ble_eq_true rfl, Nat.le_of_ble_eq_true rfl⟩ ⟨Nat.le_of_ble_eq_true rfl, Nat.le_of_ble_eq_true rfl⟩ (Nat.le_of_ble_eq_true rfl) (fun H locs hM hS => ?_)
        refine lv_istore_n (lv' := [(2, .int (fpF (cs 0) (rget 6 (cs 0 8 4) (cs 0 4) i))), (0, .ref x), (1, .int i)]) hx hb dX5_tieCamel_91 rfl hl (by decide) rfl (fun ls hl => ?_)
        refine lv_iload_n hx hb dX5_tieCamel_92 rfl (lv_at hl 0 rfl) ?_
        refine lv_iconst (v := (-1)) hx hb dX5_tieCamel_93 (by decide) ?_
        refine lv_icmp_eq (tgt := 102) hx hb dX5_tieCamel_94 (by decide) (fun c_94 => ?_) (fun c_94 => ?_)
        · skip
          refine lv_aload_n hx hb dX5_tieCamel_102 rfl (lv_at hl 1 rfl) ?_
          refine lv_bipush (v := 11) hx hb dX5_tieCamel_103 (by decide) ?_
          refine lv_iload_n hx hb dX5_tieCamel_105 rfl (lv_at hl 0 rfl) ?_
          refine lv_iconst (v := (-1)) hx hb dX5_tieCamel_106 (by decide) ?_
          refine lv_icmp_ne (tgt := 114) hx hb dX5_tieCamel_107 (by decide) (fun c_107 => ?_) (fun c_107 => ?_)
          · skip
            first | exact absurd c_94 c_107 | exact absurd c_107 c_94
          · skip
            refine lv_iconst (v := 0) hx hb dX5_tieCamel_110 (by decide) ?_
            refine lv_goto (tgt := 115) hx hb dX5_tieCamel_111 (by decide) ?_
            refine k_V1 hc [.int 11, .int 0] cw_X5_352 rfl dX5_tieCamel_115 (c_X5_refuse l hlf g _ x cs 11 0 hW) hW.o hM hS hl.1 rfl rfl ⟨Nat.le_of_ble_eq_true rfl, Nat.le_of_ble_eq_true rfl⟩ ⟨Nat.le_of_ble_eq_true rfl, Nat.le_of_ble_eq_true rfl⟩ (Nat.le_of_ble_eq_true rfl) (fun H locs hM hS => ?_)
            have hW := ClsAt.put (g := g) (M := M) (x := x) (cs := (rfS cs 11 0))
            exact k_iret hc hr dX5_tieCamel_118 hM hS (Nat.le_of_ble_eq_true rfl) (Nat.le_of_ble_eq_true rfl) (by first | (simp only [tiO, , eq_true c_11, eq_false c_29, eq_false c_62, eq_true c_94, eq_true c_107, rvC_l, rvC_r, rsC_l, rsC_r, upC_at, upC_upC, not_false_eq_true, not_true_eq_false, and_true, true_and, and_false, false_and, and_self, ↓reduceIte, or_true, true_or, or_self, or_false, false_or]; done) | (simp only [tiO, , eq_true c_11, eq_false c_29, eq_false c_62, eq_true c_94, eq_true c_107, rvC_l, rvC_r, rsC_l, rsC_r, upC_at, upC_upC, not_false_eq_true, not_true_eq_false, and_true, true_and, and_false, false_and, and_self, ↓reduceIte, or_true, true_or, or_self, or_false, false_or]; rfl))
        · skip
          refine lv_iload_n hx hb dX5_tieCamel_97 rfl (lv_at hl 0 rfl) ?_
          refine lv_iconst (v := 5) hx hb dX5_tieCamel_98 (by decide) ?_
          refine lv_icmp_le (tgt := 119) hx hb dX5_tieCamel_99 (by decide) (fun c_99 => ?_) (fun c_99 => ?_)
          · skip
            refine lv_aload_n hx hb dX5_tieCamel_119 rfl (lv_at hl 1 rfl) ?_
            refine gt_X5_10 hc dX5_tieCamel_120 hM hW.o rfl ?_
            refine gt_X5_143 hc dX5_tieCamel_123 hM (hW.flat (k := 0) (a := x + 1) (by decide) rfl).o rfl ?_
            refine lv_iload_n hx hb dX5_tieCamel_126 rfl (lv_at hl 2 rfl) ?_
            refine lv_iconst (v := 1) hx hb dX5_tieCamel_127 (by decide) ?_
            refine k_V0 hc [.int i, .int 1] cw_X5_381 rfl dX5_tieCamel_128 (c_X3_set l hlf g _ (x + 14) 6 (cs 0 8 6) (cs 0 6) i 1 ((hW.flat (k := 0) (a := x + 1) (by decide) rfl).row (k := 6) (r := x + 14) (by decide) rfl rfl) (by decide)) ((hW.flat (k := 0) (a := x + 1) (by decide) rfl).row (k := 6) (r := x + 14) (by decide) rfl rfl).1 hM hS hl.1 rfl rfl ⟨Nat.le_of_ble_eq_true rfl, Nat.le_of_ble_eq_true rfl⟩ ⟨Nat.le_of_ble_eq_true rfl, Nat.le_of_ble_eq_true rfl⟩ (Nat.le_of_ble_eq_true rfl) (fun H locs hM hS => ?_)
            have hM := hR.eq hM (putF_rowf (hW.flat (k := 0) (a := x + 1) (by decide) rfl) (k := 6) (by decide) rfl rfl)
            have hM := hR.eq hM (putC_flat hW (k := 0) (by decide) rfl)
            have hW := ClsAt.put (g := g) (M := M) (x := x) (cs := (upC cs 0 (up1 (cs 0) 6 (rset 6 (cs 0 8 6) (cs 0 6) i 1))))
            refine lv_aload_n hx hb dX5_tieCamel_131 rfl (lv_at hl 1 rfl) ?_
            refine gt_X5_10 hc dX5_tieCamel_132 hM hW.o rfl ?_
            refine gt_X5_143 hc dX5_tieCamel_135 hM (hW.flat (k := 0) (a := x + 1) (by decide) rfl).o rfl ?_
            refine k_V1 hc [] cw_X5_303 rfl dX5_tieCamel_138 (c_X3_sum l hlf g _ (x + 14) 6 ((upC cs 0 (up1 (cs 0) 6 (rset 6 (cs 0 8 6) (cs 0 6) i 1))) 0 8 6) ((upC cs 0 (up1 (cs 0) 6 (rset 6 (cs 0 8 6) (cs 0 6) i 1))) 0 6) ((hW.flat (k := 0) (a := x + 1) (by decide) rfl).row (k := 6) (r := x + 14) (by decide) rfl rfl) (by decide)) ((hW.flat (k := 0) (a := x + 1) (by decide) rfl).row (k := 6) (r := x + 14) (by decide) rfl rfl).1 hM hS hl.1 rfl rfl ⟨Nat.le_of_ble_eq_true rfl, Nat.le_of_ble_eq_true rfl⟩ ⟨Nat.le_of_ble_eq_true rfl, Nat.le_of_ble_eq_true rfl⟩ (Nat.le_of_ble_eq_true rfl) (fun H locs hM hS => ?_)
            exact k_iret hc hr dX5_tieCamel_141 hM hS (Nat.le_of_ble_eq_true rfl) (Nat.le_of_ble_eq_true rfl) (by first | (simp only [tiO, , eq_true c_11, eq_false c_29, eq_false c_62, eq_false c_94, eq_true c_99, rvC_l, rvC_r, rsC_l, rsC_r, upC_at, upC_upC, not_false_eq_true, not_true_eq_false, and_true, true_and, and_false, false_and, and_self, ↓reduceIte, or_true, true_or, or_self, or_false, false_or]; done) | (simp only [tiO, , eq_true c_11, eq_false c_29, eq_false c_62, eq_false c_94, eq_true c_99, rvC_l, rvC_r, rsC_l, rsC_r, upC_at, upC_upC, not_false_eq_true, not_true_eq_false, and_true, true_and, and_false, false_and, and_self, ↓reduceIte, or_true, true_or, or_self, or_false, false_or]; rfl))
          · skip
            refine lv_aload_n hx hb dX5_tieCamel_102 rfl (lv_at hl 1 rfl) ?_
            refine lv_bipush (v := 11) hx hb dX5_tieCamel_103 (by decide) ?_
            refine lv_iload_n hx hb dX5_tieCamel_105 rfl (lv_at hl 0 rfl) ?_
            refine lv_iconst (v := (-1)) hx hb dX5_tieCamel_106 (by decide) ?_
            refine lv_icmp_ne (tgt := 114) hx hb dX5_tieCamel_107 (by decide) (fun c_107 => ?_) (fun c_107 => ?_)
            · skip
              refine lv_iload_n hx hb dX5_tieCamel_114 rfl (lv_at hl 0 rfl) ?_
              refine k_V1 hc [.int 11, .int (fpF (cs 0) (rget 6 (cs 0 8 4) (cs 0 4) i))] cw_X5_352 rfl dX5_tieCamel_115 (c_X5_refuse l hlf g _ x cs 11 (fpF (cs 0) (rget 6 (cs 0 8 4) (cs 0 4) i)) hW) hW.o hM hS hl.1 rfl rfl ⟨Nat.le_of_ble_eq_true rfl, Nat.le_of_ble_eq_true rfl⟩ ⟨Nat.le_of_ble_eq_true rfl, Nat.le_of_ble_eq_true rfl⟩ (Nat.le_of_ble_eq_true rfl) (fun H locs hM hS => ?_)
              have hW := ClsAt.put (g := g) (M := M) (x := x) (cs := (rfS cs 11 (fpF (cs 0) (rget 6 (cs 0 8 4) (cs 0 4) i))))
              exact k_iret hc hr dX5_tieCamel_118 hM hS (Nat.le_of_ble_eq_true rfl) (Nat.le_of_ble_eq_true rfl) (by first | (simp only [tiO, , eq_true c_11, eq_false c_29, eq_false c_62, eq_false c_94, eq_false c_99, eq_false c_107, rvC_l, rvC_r, rsC_l, rsC_r, upC_at, upC_upC, not_false_eq_true, not_true_eq_false, and_true, true_and, and_false, false_and, and_self, ↓reduceIte, or_true, true_or, or_self, or_false, false_or]; done) | (simp only [tiO, , eq_true c_11, eq_false c_29, eq_false c_62, eq_false c_94, eq_false c_99, eq_false c_107, rvC_l, rvC_r, rsC_l, rsC_r, upC_at, upC_upC, not_false_eq_true, not_true_eq_false, and_true, true_and, and_false, false_and, and_self, ↓reduceIte, or_true, true_or, or_self, or_false, false_or]; rfl))
            · skip
              first | exact absurd c_94 c_107 | exact absurd c_107 c_94
      · skip
        refine lv_aload_n hx hb dX5_tieCamel_65 rfl (lv_at hl 0 rfl) ?_
        refine lv_bipush (v := 7) hx hb dX5_tieCamel_66 (by decide) ?_
        refine lv_iload_n hx hb dX5_tieCamel_68 rfl (lv_at hl 1 rfl) ?_
        refine k_V1 hc [.int 7, .int i] cw_X5_352 rfl dX5_tieCamel_69 (c_X5_refuse l hlf g _ x cs 7 i hW) hW.o hM hS hl.1 rfl rfl ⟨Nat.le_of_ble_eq_true rfl, Nat.le_of_ble_eq_true rfl⟩ ⟨Nat.le_of_ble_eq_true rfl, Nat.le_of_ble_eq_true rfl⟩ (Nat.le_of_ble_eq_true rfl) (fun H locs hM hS => ?_)
        have hW := ClsAt.put (g := g) (M := M) (x := x) (cs := (rfS cs 7 i))
        exact k_iret hc hr dX5_tieCamel_72 hM hS (Nat.le_of_ble_eq_true rfl) (Nat.le_of_ble_eq_true rfl) (by first | (simp only [tiO, , eq_true c_11, eq_false c_29, eq_true c_62, rvC_l, rvC_r, rsC_l, rsC_r, upC_at, upC_upC, not_false_eq_true, not_true_eq_false, and_true, true_and, and_false, false_and, and_self, ↓reduceIte, or_true, true_or, or_self, or_false, false_or]; done) | (simp only [tiO, , eq_true c_11, eq_false c_29, eq_true c_62, rvC_l, rvC_r, rsC_l, rsC_r, upC_at, upC_upC, not_false_eq_true, not_true_eq_false, and_true, true_and, and_false, false_and, and_self, ↓reduceIte, or_true, true_or, or_self, or_false, false_or]; rfl))
    · skip
      have c_29 := bI_ne.mp c_29
      refine lv_aload_n hx hb dX5_tieCamel_32 rfl (lv_at hl 0 rfl) ?_
      refine lv_bipush (v := 8) hx hb dX5_tieCamel_33 (by decide) ?_
      refine lv_aload_n hx hb dX5_tieCamel_35 rfl (lv_at hl 0 rfl) ?_
      refine gt_X5_10 hc dX5_tieCamel_36 hM hW.o rfl ?_
      refine gt_X5_137 hc dX5_tieCamel_39 hM (hW.flat (k := 0) (a := x + 1) (by decide) rfl).o rfl ?_
      refine lv_iload_n hx hb dX5_tieCamel_42 rfl (lv_at hl 1 rfl) ?_
      refine k_V1 hc [.int i] cw_X5_120 rfl dX5_tieCamel_43 (c_X3_get l hlf g _ (x + 10) 6 (cs 0 8 4) (cs 0 4) i ((hW.flat (k := 0) (a := x + 1) (by decide) rfl).row (k := 4) (r := x + 10) (by decide) rfl rfl) (by decide)) ((hW.flat (k := 0) (a := x + 1) (by decide) rfl).row (k := 4) (r := x + 10) (by decide) rfl rfl).1 hM hS hl.1 rfl rfl ⟨Nat.le_of_ble_eq_true rfl, Nat.le_of_ble_eq_true rfl⟩ ⟨Nat.le_of_ble_eq_true rfl, Nat.le_of_ble_eq_true rfl⟩ (Nat.le_of_ble_eq_true rfl) (fun H locs hM hS => ?_)
      refine k_V1 hc [.int 8, .int (rget 6 (cs 0 8 4) (cs 0 4) i)] cw_X5_352 rfl dX5_tieCamel_46 (c_X5_refuse l hlf g _ x cs 8 (rget 6 (cs 0 8 4) (cs 0 4) i) hW) hW.o hM hS hl.1 rfl rfl ⟨Nat.le_of_ble_eq_true rfl, Nat.le_of_ble_eq_true rfl⟩ ⟨Nat.le_of_ble_eq_true rfl, Nat.le_of_ble_eq_true rfl⟩ (Nat.le_of_ble_eq_true rfl) (fun H locs hM hS => ?_)
      have hW := ClsAt.put (g := g) (M := M) (x := x) (cs := (rfS cs 8 (rget 6 (cs 0 8 4) (cs 0 4) i)))
      exact k_iret hc hr dX5_tieCamel_49 hM hS (Nat.le_of_ble_eq_true rfl) (Nat.le_of_ble_eq_true rfl) (by first | (simp only [tiO, , eq_true c_11, eq_true c_29, rvC_l, rvC_r, rsC_l, rsC_r, upC_at, upC_upC, not_false_eq_true, not_true_eq_false, and_true, true_and, and_false, false_and, and_self, ↓reduceIte, or_true, true_or, or_self, or_false, false_or]; done) | (simp only [tiO, , eq_true c_11, eq_true c_29, rvC_l, rvC_r, rsC_l, rsC_r, upC_at, upC_upC, not_false_eq_true, not_true_eq_false, and_true, true_and, and_false, false_and, and_self, ↓reduceIte, or_true, true_or, or_self, or_false, false_or]; rfl))
  · skip
    have c_11 := bI_eq.mp c_11
    refine lv_aload_n hx hb dX5_tieCamel_14 rfl (lv_at hl 0 rfl) ?_
    refine lv_iconst (v := 3) hx hb dX5_tieCamel_15 (by decide) ?_
    refine lv_iload_n hx hb dX5_tieCamel_16 rfl (lv_at hl 1 rfl) ?_
    refine k_V1 hc [.int 3, .int i] cw_X5_352 rfl dX5_tieCamel_17 (c_X5_refuse l hlf g _ x cs 3 i hW) hW.o hM hS hl.1 rfl rfl ⟨Nat.le_of_ble_eq_true rfl, Nat.le_of_ble_eq_true rfl⟩ ⟨Nat.le_of_ble_eq_true rfl, Nat.le_of_ble_eq_true rfl⟩ (Nat.le_of_ble_eq_true rfl) (fun H locs hM hS => ?_)
    have hW := ClsAt.put (g := g) (M := M) (x := x) (cs := (rfS cs 3 i))
    exact k_iret hc hr dX5_tieCamel_20 hM hS (Nat.le_of_ble_eq_true rfl) (Nat.le_of_ble_eq_true rfl) (by first | (simp only [tiO, , eq_false c_11, rvC_l, rvC_r, rsC_l, rsC_r, upC_at, upC_upC, not_false_eq_true, not_true_eq_false, and_true, true_and, and_false, false_and, and_self, ↓reduceIte, or_true, true_or, or_self, or_false, false_or]; done) | (simp only [tiO, , eq_false c_11, rvC_l, rvC_r, rsC_l, rsC_r, upC_at, upC_upC, not_false_eq_true, not_true_eq_false, and_true, true_and, and_false, false_and, and_self, ↓reduceIte, or_true, true_or, or_self, or_false, false_or]; rfl))
set_option maxHeartbeats 4000000 in
set_option maxRecDepth 100000 in
theorem c_X5_loosenCamel (l : Launch) (hlf : l.stackTraces = false) (g : GC) (M : HM) (x : Nat) (cs : CS) (i : Int32) (hW : ClsAt g M x cs) : KM g l yX5_loosenCamel cX5_loosenCamel 2 (some .int) 3 0 0 [.ref x, .int i] M (.inl (some (.int (rvC (loO (cs 0) i))), (putC g M x (rsC cs (loO (cs 0) i))))) := by
  refine k_meth hlf (by decide) (Nat.le_of_ble_eq_true rfl) fun p e s m below meth c ls hc hr hnx hM hS hl => ?_
  have hc : Cx g p l s m [.ref x, .int i].toArray meth c cX5_loosenCamel 2 RX5 := hc
  have hx := hc.1
  have hb := hc.2.1
  have hl : lv_has ls 2 [(0, .ref x), (1, .int i)] := hl
  refine lv_aload_n hx hb dX5_loosenCamel_0 rfl (lv_at hl 0 rfl) ?_
  refine gt_X5_10 hc dX5_loosenCamel_1 hM hW.o rfl ?_
  refine gt_X5_137 hc dX5_loosenCamel_4 hM (hW.flat (k := 0) (a := x + 1) (by decide) rfl).o rfl ?_
  refine lv_iload_n hx hb dX5_loosenCamel_7 rfl (lv_at hl 1 rfl) ?_
  refine k_V1 hc [.int i] cw_X5_362 rfl dX5_loosenCamel_8 (c_X3_has l hlf g _ (x + 10) 6 (cs 0 8 4) (cs 0 4) i ((hW.flat (k := 0) (a := x + 1) (by decide) rfl).row (k := 4) (r := x + 10) (by decide) rfl rfl)) ((hW.flat (k := 0) (a := x + 1) (by decide) rfl).row (k := 4) (r := x + 10) (by decide) rfl rfl).1 hM hS hl.1 rfl rfl ⟨Nat.le_of_ble_eq_true rfl, Nat.le_of_ble_eq_true rfl⟩ ⟨Nat.le_of_ble_eq_true rfl, Nat.le_of_ble_eq_true rfl⟩ (Nat.le_of_ble_eq_true rfl) (fun H locs hM hS => ?_)
  refine lv_if_ne (tgt := 21) hx hb dX5_loosenCamel_11 (by decide) (fun c_11 => ?_) (fun c_11 => ?_)
  · skip
    have c_11 := bI_ne.mp c_11
    refine lv_aload_n hx hb dX5_loosenCamel_21 rfl (lv_at hl 0 rfl) ?_
    refine gt_X5_10 hc dX5_loosenCamel_22 hM hW.o rfl ?_
    refine gt_X5_143 hc dX5_loosenCamel_25 hM (hW.flat (k := 0) (a := x + 1) (by decide) rfl).o rfl ?_
    refine lv_iload_n hx hb dX5_loosenCamel_28 rfl (lv_at hl 1 rfl) ?_
    refine k_V1 hc [.int i] cw_X5_120 rfl dX5_loosenCamel_29 (c_X3_get l hlf g _ (x + 14) 6 (cs 0 8 6) (cs 0 6) i ((hW.flat (k := 0) (a := x + 1) (by decide) rfl).row (k := 6) (r := x + 14) (by decide) rfl rfl) (by decide)) ((hW.flat (k := 0) (a := x + 1) (by decide) rfl).row (k := 6) (r := x + 14) (by decide) rfl rfl).1 hM hS hl.1 rfl rfl ⟨Nat.le_of_ble_eq_true rfl, Nat.le_of_ble_eq_true rfl⟩ ⟨Nat.le_of_ble_eq_true rfl, Nat.le_of_ble_eq_true rfl⟩ (Nat.le_of_ble_eq_true rfl) (fun H locs hM hS => ?_)
    refine lv_if_ne (tgt := 43) hx hb dX5_loosenCamel_32 (by decide) (fun c_32 => ?_) (fun c_32 => ?_)
    · skip
      refine lv_aload_n hx hb dX5_loosenCamel_43 rfl (lv_at hl 0 rfl) ?_
      refine gt_X5_10 hc dX5_loosenCamel_44 hM hW.o rfl ?_
      refine gt_X5_143 hc dX5_loosenCamel_47 hM (hW.flat (k := 0) (a := x + 1) (by decide) rfl).o rfl ?_
      refine lv_iload_n hx hb dX5_loosenCamel_50 rfl (lv_at hl 1 rfl) ?_
      refine lv_iconst (v := 0) hx hb dX5_loosenCamel_51 (by decide) ?_
      refine k_V0 hc [.int i, .int 0] cw_X5_381 rfl dX5_loosenCamel_52 (c_X3_set l hlf g _ (x + 14) 6 (cs 0 8 6) (cs 0 6) i 0 ((hW.flat (k := 0) (a := x + 1) (by decide) rfl).row (k := 6) (r := x + 14) (by decide) rfl rfl) (by decide)) ((hW.flat (k := 0) (a := x + 1) (by decide) rfl).row (k := 6) (r := x + 14) (by decide) rfl rfl).1 hM hS hl.1 rfl rfl ⟨Nat.le_of_ble_eq_true rfl, Nat.le_of_ble_eq_true rfl⟩ ⟨Nat.le_of_ble_eq_true rfl, Nat.le_of_ble_eq_true rfl⟩ (Nat.le_of_ble_eq_true rfl) (fun H locs hM hS => ?_)
      have hM := hR.eq hM (putF_rowf (hW.flat (k := 0) (a := x + 1) (by decide) rfl) (k := 6) (by decide) rfl rfl)
      have hM := hR.eq hM (putC_flat hW (k := 0) (by decide) rfl)
      have hW := ClsAt.put (g := g) (M := M) (x := x) (cs := (upC cs 0 (up1 (cs 0) 6 (rset 6 (cs 0 8 6) (cs 0 6) i 0))))
      refine lv_aload_n hx hb dX5_loosenCamel_55 rfl (lv_at hl 0 rfl) ?_
      refine gt_X5_10 hc dX5_loosenCamel_56 hM hW.o rfl ?_
      refine gt_X5_143 hc dX5_loosenCamel_59 hM (hW.flat (k := 0) (a := x + 1) (by decide) rfl).o rfl ?_
      refine k_V1 hc [] cw_X5_303 rfl dX5_loosenCamel_62 (c_X3_sum l hlf g _ (x + 14) 6 ((upC cs 0 (up1 (cs 0) 6 (rset 6 (cs 0 8 6) (cs 0 6) i 0))) 0 8 6) ((upC cs 0 (up1 (cs 0) 6 (rset 6 (cs 0 8 6) (cs 0 6) i 0))) 0 6) ((hW.flat (k := 0) (a := x + 1) (by decide) rfl).row (k := 6) (r := x + 14) (by decide) rfl rfl) (by decide)) ((hW.flat (k := 0) (a := x + 1) (by decide) rfl).row (k := 6) (r := x + 14) (by decide) rfl rfl).1 hM hS hl.1 rfl rfl ⟨Nat.le_of_ble_eq_true rfl, Nat.le_of_ble_eq_true rfl⟩ ⟨Nat.le_of_ble_eq_true rfl, Nat.le_of_ble_eq_true rfl⟩ (Nat.le_of_ble_eq_true rfl) (fun H locs hM hS => ?_)
      exact k_iret hc hr dX5_loosenCamel_65 hM hS (Nat.le_of_ble_eq_true rfl) (Nat.le_of_ble_eq_true rfl) (by first | (simp only [loO, , eq_true c_11, eq_false c_32, rvC_l, rvC_r, rsC_l, rsC_r, upC_at, upC_upC, not_false_eq_true, not_true_eq_false, and_true, true_and, and_false, false_and, and_self, ↓reduceIte, or_true, true_or, or_self, or_false, false_or]; done) | (simp only [loO, , eq_true c_11, eq_false c_32, rvC_l, rvC_r, rsC_l, rsC_r, upC_at, upC_upC, not_false_eq_true, not_true_eq_false, and_true, true_and, and_false, false_and, and_self, ↓reduceIte, or_true, true_or, or_self, or_false, false_or]; rfl))
    · skip
      refine lv_aload_n hx hb dX5_loosenCamel_35 rfl (lv_at hl 0 rfl) ?_
      refine lv_bipush (v := 7) hx hb dX5_loosenCamel_36 (by decide) ?_
      refine lv_iload_n hx hb dX5_loosenCamel_38 rfl (lv_at hl 1 rfl) ?_
      refine k_V1 hc [.int 7, .int i] cw_X5_352 rfl dX5_loosenCamel_39 (c_X5_refuse l hlf g _ x cs 7 i hW) hW.o hM hS hl.1 rfl rfl ⟨Nat.le_of_ble_eq_true rfl, Nat.le_of_ble_eq_true rfl⟩ ⟨Nat.le_of_ble_eq_true rfl, Nat.le_of_ble_eq_true rfl⟩ (Nat.le_of_ble_eq_true rfl) (fun H locs hM hS => ?_)
      have hW := ClsAt.put (g := g) (M := M) (x := x) (cs := (rfS cs 7 i))
      exact k_iret hc hr dX5_loosenCamel_42 hM hS (Nat.le_of_ble_eq_true rfl) (Nat.le_of_ble_eq_true rfl) (by first | (simp only [loO, , eq_true c_11, eq_true c_32, rvC_l, rvC_r, rsC_l, rsC_r, upC_at, upC_upC, not_false_eq_true, not_true_eq_false, and_true, true_and, and_false, false_and, and_self, ↓reduceIte, or_true, true_or, or_self, or_false, false_or]; done) | (simp only [loO, , eq_true c_11, eq_true c_32, rvC_l, rvC_r, rsC_l, rsC_r, upC_at, upC_upC, not_false_eq_true, not_true_eq_false, and_true, true_and, and_false, false_and, and_self, ↓reduceIte, or_true, true_or, or_self, or_false, false_or]; rfl))
  · skip
    have c_11 := bI_eq.mp c_11
    refine lv_aload_n hx hb dX5_loosenCamel_14 rfl (lv_at hl 0 rfl) ?_
    refine lv_iconst (v := 3) hx hb dX5_loosenCamel_15 (by decide) ?_
    refine lv_iload_n hx hb dX5_loosenCamel_16 rfl (lv_at hl 1 rfl) ?_
    refine k_V1 hc [.int 3, .int i] cw_X5_352 rfl dX5_loosenCamel_17 (c_X5_refuse l hlf g _ x cs 3 i hW) hW.o hM hS hl.1 rfl rfl ⟨Nat.le_of_ble_eq_true rfl, Nat.le_of_ble_eq_true rfl⟩ ⟨Nat.le_of_ble_eq_true rfl, Nat.le_of_ble_eq_true rfl⟩ (Nat.le_of_ble_eq_true rfl) (fun H locs hM hS => ?_)
    have hW := ClsAt.put (g := g) (M := M) (x := x) (cs := (rfS cs 3 i))
    exact k_iret hc hr dX5_loosenCamel_20 hM hS (Nat.le_of_ble_eq_true rfl) (Nat.le_of_ble_eq_true rfl) (by first | (simp only [loO, , eq_false c_11, rvC_l, rvC_r, rsC_l, rsC_r, upC_at, upC_upC, not_false_eq_true, not_true_eq_false, and_true, true_and, and_false, false_and, and_self, ↓reduceIte, or_true, true_or, or_self, or_false, false_or]; done) | (simp only [loO, , eq_false c_11, rvC_l, rvC_r, rsC_l, rsC_r, upC_at, upC_upC, not_false_eq_true, not_true_eq_false, and_true, true_and, and_false, false_and, and_self, ↓reduceIte, or_true, true_or, or_self, or_false, false_or]; rfl))
set_option maxHeartbeats 4000000 in
set_option maxRecDepth 100000 in
theorem c_X5_waterCamel (l : Launch) (hlf : l.stackTraces = false) (g : GC) (M : HM) (x : Nat) (cs : CS) (i : Int32) (hW : ClsAt g M x cs) : KM g l yX5_waterCamel cX5_waterCamel 4 (some .int) 3 0 0 [.ref x, .int i] M (.inl (some (.int (rvC (wcO (cs 0) i))), (putC g M x (rsC cs (wcO (cs 0) i))))) := by
  refine k_meth hlf (by decide) (Nat.le_of_ble_eq_true rfl) fun p e s m below meth c ls hc hr hnx hM hS hl => ?_
  have hc : Cx g p l s m [.ref x, .int i].toArray meth c cX5_waterCamel 4 RX5 := hc
  have hx := hc.1
  have hb := hc.2.1
  have hl : lv_has ls 4 [(0, .ref x), (1, .int i)] := hl
  refine lv_aload_n hx hb dX5_waterCamel_0 rfl (lv_at hl 0 rfl) ?_
  refine gt_X5_10 hc dX5_waterCamel_1 hM hW.o rfl ?_
  refine gt_X5_137 hc dX5_waterCamel_4 hM (hW.flat (k := 0) (a := x + 1) (by decide) rfl).o rfl ?_
  refine lv_iload_n hx hb dX5_waterCamel_7 rfl (lv_at hl 1 rfl) ?_
  refine k_V1 hc [.int i] cw_X5_362 rfl dX5_waterCamel_8 (c_X3_has l hlf g _ (x + 10) 6 (cs 0 8 4) (cs 0 4) i ((hW.flat (k := 0) (a := x + 1) (by decide) rfl).row (k := 4) (r := x + 10) (by decide) rfl rfl)) ((hW.flat (k := 0) (a := x + 1) (by decide) rfl).row (k := 4) (r := x + 10) (by decide) rfl rfl).1 hM hS hl.1 rfl rfl ⟨Nat.le_of_ble_eq_true rfl, Nat.le_of_ble_eq_true rfl⟩ ⟨Nat.le_of_ble_eq_true rfl, Nat.le_of_ble_eq_true rfl⟩ (Nat.le_of_ble_eq_true rfl) (fun H locs hM hS => ?_)
  refine lv_if_ne (tgt := 21) hx hb dX5_waterCamel_11 (by decide) (fun c_11 => ?_) (fun c_11 => ?_)
  · skip
    have c_11 := bI_ne.mp c_11
    refine lv_aload_n hx hb dX5_waterCamel_21 rfl (lv_at hl 0 rfl) ?_
    refine gt_X5_10 hc dX5_waterCamel_22 hM hW.o rfl ?_
    refine lv_iload_n hx hb dX5_waterCamel_25 rfl (lv_at hl 1 rfl) ?_
    refine k_V1 hc [.int i] cw_X5_146 rfl dX5_waterCamel_26 (c_X0_isLost l hlf g _ (x + 1) (cs 0) i (hW.flat (k := 0) (a := x + 1) (by decide) rfl)) (hW.flat (k := 0) (a := x + 1) (by decide) rfl).o hM hS hl.1 rfl rfl ⟨Nat.le_of_ble_eq_true rfl, Nat.le_of_ble_eq_true rfl⟩ ⟨Nat.le_of_ble_eq_true rfl, Nat.le_of_ble_eq_true rfl⟩ (Nat.le_of_ble_eq_true rfl) (fun H locs hM hS => ?_)
    refine lv_if_eq (tgt := 50) hx hb dX5_waterCamel_29 (by decide) (fun c_29 => ?_) (fun c_29 => ?_)
    · skip
      have c_29 := bI_eq.mp c_29
      refine lv_aload_n hx hb dX5_waterCamel_50 rfl (lv_at hl 0 rfl) ?_
      refine gt_X5_10 hc dX5_waterCamel_51 hM hW.o rfl ?_
      refine gt_X5_140 hc dX5_waterCamel_54 hM (hW.flat (k := 0) (a := x + 1) (by decide) rfl).o rfl ?_
      refine lv_iload_n hx hb dX5_waterCamel_57 rfl (lv_at hl 1 rfl) ?_
      refine k_V1 hc [.int i] cw_X5_120 rfl dX5_waterCamel_58 (c_X3_get l hlf g _ (x + 12) 6 (cs 0 8 5) (cs 0 5) i ((hW.flat (k := 0) (a := x + 1) (by decide) rfl).row (k := 5) (r := x + 12) (by decide) rfl rfl) (by decide)) ((hW.flat (k := 0) (a := x + 1) (by decide) rfl).row (k := 5) (r := x + 12) (by decide) rfl rfl).1 hM hS hl.1 rfl rfl ⟨Nat.le_of_ble_eq_true rfl, Nat.le_of_ble_eq_true rfl⟩ ⟨Nat.le_of_ble_eq_true rfl, Nat.le_of_ble_eq_true rfl⟩ (Nat.le_of_ble_eq_true rfl) (fun H locs hM hS => ?_)
      refine lv_istore_n (lv' := [(2, .int (rget 6 (cs 0 8 5) (cs 0 5) i)), (0, .ref x), (1, .int i)]) hx hb dX5_waterCamel_61 rfl hl (by decide) rfl (fun ls hl => ?_)
      refine lv_iload_n hx hb dX5_waterCamel_62 rfl (lv_at hl 0 rfl) ?_
      refine lv_if_ne (tgt := 74) hx hb dX5_waterCamel_63 (by decide) (fun c_63 => ?_) (fun c_63 => ?_)
      · skip
        refine lv_iload_n hx hb dX5_waterCamel_74 rfl (lv_at hl 0 rfl) ?_
        refine lv_iconst (v := 1) hx hb dX5_waterCamel_75 (by decide) ?_
        refine lv_iadd hx hb dX5_waterCamel_76 ?_
        refine lv_iconst (v := 2) hx hb dX5_waterCamel_77 (by decide) ?_
        refine lv_idiv hx hb dX5_waterCamel_78 (by decide) ?_
        refine lv_istore_n (lv' := [(3, .int (((rget 6 (cs 0 8 5) (cs 0 5) i) + 1) / 2)), (2, .int (rget 6 (cs 0 8 5) (cs 0 5) i)), (0, .ref x), (1, .int i)]) hx hb dX5_waterCamel_79 rfl hl (by decide) rfl (fun ls hl => ?_)
        refine lv_iload_n hx hb dX5_waterCamel_80 rfl (lv_at hl 0 rfl) ?_
        refine lv_aload_n hx hb dX5_waterCamel_81 rfl (lv_at hl 2 rfl) ?_
        refine gt_X5_10 hc dX5_waterCamel_82 hM hW.o rfl ?_
        refine gt_X5_321 hc dX5_waterCamel_85 hM (hW.flat (k := 0) (a := x + 1) (by decide) rfl).o rfl ?_
        refine lv_icmp_le (tgt := 107) hx hb dX5_waterCamel_88 (by decide) (fun c_88 => ?_) (fun c_88 => ?_)
        · skip
          refine lv_aload_n hx hb dX5_waterCamel_107 rfl (lv_at hl 2 rfl) ?_
          refine gt_X5_10 hc dX5_waterCamel_108 hM hW.o rfl ?_
          refine lv_dup hx hb dX5_waterCamel_111 rfl ?_
          refine gt_X5_321 hc dX5_waterCamel_112 hM (hW.flat (k := 0) (a := x + 1) (by decide) rfl).o rfl ?_
          refine lv_iload_n hx hb dX5_waterCamel_115 rfl (lv_at hl 0 rfl) ?_
          refine lv_isub hx hb dX5_waterCamel_116 ?_
          refine pt_X5_321 hc dX5_waterCamel_117 hM hS (hW.flat (k := 0) (a := x + 1) (by decide) rfl).o rfl rfl (Nat.le_of_ble_eq_true rfl) (fun H locs hM hS => ?_)
          have hM := hR.eq hM (putF_fld (hW.flat (k := 0) (a := x + 1) (by decide) rfl) 3 (v := ((cs 0 9 3) - (((rget 6 (cs 0 8 5) (cs 0 5) i) + 1) / 2))) fl_s3)
          have hM := hR.eq hM (putC_flat hW (k := 0) (by decide) rfl)
          have hW := ClsAt.put (g := g) (M := M) (x := x) (cs := (upC cs 0 (up2 (cs 0) 9 3 ((cs 0 9 3) - (((rget 6 (cs 0 8 5) (cs 0 5) i) + 1) / 2)))))
          refine lv_aload_n hx hb dX5_waterCamel_120 rfl (lv_at hl 2 rfl) ?_
          refine gt_X5_10 hc dX5_waterCamel_121 hM hW.o rfl ?_
          refine gt_X5_140 hc dX5_waterCamel_124 hM (hW.flat (k := 0) (a := x + 1) (by decide) rfl).o rfl ?_
          refine lv_iload_n hx hb dX5_waterCamel_127 rfl (lv_at hl 3 rfl) ?_
          refine lv_iconst (v := 0) hx hb dX5_waterCamel_128 (by decide) ?_
          refine k_V0 hc [.int i, .int 0] cw_X5_381 rfl dX5_waterCamel_129 (c_X3_set l hlf g _ (x + 12) 6 ((upC cs 0 (up2 (cs 0) 9 3 ((cs 0 9 3) - (((rget 6 (cs 0 8 5) (cs 0 5) i) + 1) / 2)))) 0 8 5) ((upC cs 0 (up2 (cs 0) 9 3 ((cs 0 9 3) - (((rget 6 (cs 0 8 5) (cs 0 5) i) + 1) / 2)))) 0 5) i 0 ((hW.flat (k := 0) (a := x + 1) (by decide) rfl).row (k := 5) (r := x + 12) (by decide) rfl rfl) (by decide)) ((hW.flat (k := 0) (a := x + 1) (by decide) rfl).row (k := 5) (r := x + 12) (by decide) rfl rfl).1 hM hS hl.1 rfl rfl ⟨Nat.le_of_ble_eq_true rfl, Nat.le_of_ble_eq_true rfl⟩ ⟨Nat.le_of_ble_eq_true rfl, Nat.le_of_ble_eq_true rfl⟩ (Nat.le_of_ble_eq_true rfl) (fun H locs hM hS => ?_)
          have hM := hR.eq hM (putF_rowf (hW.flat (k := 0) (a := x + 1) (by decide) rfl) (k := 5) (by decide) rfl rfl)
          have hM := hR.eq hM (putC_flat hW (k := 0) (by decide) rfl)
          have hM := hR.eq hM putC_putC
          have hW := ClsAt.put (g := g) (M := M) (x := x) (cs := (upC (upC cs 0 (up2 (cs 0) 9 3 ((cs 0 9 3) - (((rget 6 (cs 0 8 5) (cs 0 5) i) + 1) / 2)))) 0 (up1 ((upC cs 0 (up2 (cs 0) 9 3 ((cs 0 9 3) - (((rget 6 (cs 0 8 5) (cs 0 5) i) + 1) / 2)))) 0) 5 (rset 6 ((upC cs 0 (up2 (cs 0) 9 3 ((cs 0 9 3) - (((rget 6 (cs 0 8 5) (cs 0 5) i) + 1) / 2)))) 0 8 5) ((upC cs 0 (up2 (cs 0) 9 3 ((cs 0 9 3) - (((rget 6 (cs 0 8 5) (cs 0 5) i) + 1) / 2)))) 0 5) i 0))))
          refine lv_aload_n hx hb dX5_waterCamel_132 rfl (lv_at hl 2 rfl) ?_
          refine gt_X5_10 hc dX5_waterCamel_133 hM hW.o rfl ?_
          refine gt_X5_150 hc dX5_waterCamel_136 hM (hW.flat (k := 0) (a := x + 1) (by decide) rfl).o rfl ?_
          refine lv_iload_n hx hb dX5_waterCamel_139 rfl (lv_at hl 3 rfl) ?_
          refine lv_aload_n hx hb dX5_waterCamel_140 rfl (lv_at hl 2 rfl) ?_
          refine gt_X5_10 hc dX5_waterCamel_141 hM hW.o rfl ?_
          refine gt_X5_150 hc dX5_waterCamel_144 hM (hW.flat (k := 0) (a := x + 1) (by decide) rfl).o rfl ?_
          refine lv_iload_n hx hb dX5_waterCamel_147 rfl (lv_at hl 3 rfl) ?_
          refine k_V1 hc [.int i] cw_X5_120 rfl dX5_waterCamel_148 (c_X3_get l hlf g _ (x + 16) 6 ((upC (upC cs 0 (up2 (cs 0) 9 3 ((cs 0 9 3) - (((rget 6 (cs 0 8 5) (cs 0 5) i) + 1) / 2)))) 0 (up1 ((upC cs 0 (up2 (cs 0) 9 3 ((cs 0 9 3) - (((rget 6 (cs 0 8 5) (cs 0 5) i) + 1) / 2)))) 0) 5 (rset 6 ((upC cs 0 (up2 (cs 0) 9 3 ((cs 0 9 3) - (((rget 6 (cs 0 8 5) (cs 0 5) i) + 1) / 2)))) 0 8 5) ((upC cs 0 (up2 (cs 0) 9 3 ((cs 0 9 3) - (((rget 6 (cs 0 8 5) (cs 0 5) i) + 1) / 2)))) 0 5) i 0))) 0 8 7) ((upC (upC cs 0 (up2 (cs 0) 9 3 ((cs 0 9 3) - (((rget 6 (cs 0 8 5) (cs 0 5) i) + 1) / 2)))) 0 (up1 ((upC cs 0 (up2 (cs 0) 9 3 ((cs 0 9 3) - (((rget 6 (cs 0 8 5) (cs 0 5) i) + 1) / 2)))) 0) 5 (rset 6 ((upC cs 0 (up2 (cs 0) 9 3 ((cs 0 9 3) - (((rget 6 (cs 0 8 5) (cs 0 5) i) + 1) / 2)))) 0 8 5) ((upC cs 0 (up2 (cs 0) 9 3 ((cs 0 9 3) - (((rget 6 (cs 0 8 5) (cs 0 5) i) + 1) / 2)))) 0 5) i 0))) 0 7) i ((hW.flat (k := 0) (a := x + 1) (by decide) rfl).row (k := 7) (r := x + 16) (by decide) rfl rfl) (by decide)) ((hW.flat (k := 0) (a := x + 1) (by decide) rfl).row (k := 7) (r := x + 16) (by decide) rfl rfl).1 hM hS hl.1 rfl rfl ⟨Nat.le_of_ble_eq_true rfl, Nat.le_of_ble_eq_true rfl⟩ ⟨Nat.le_of_ble_eq_true rfl, Nat.le_of_ble_eq_true rfl⟩ (Nat.le_of_ble_eq_true rfl) (fun H locs hM hS => ?_)
          refine lv_iload_n hx hb dX5_waterCamel_151 rfl (lv_at hl 0 rfl) ?_
          refine lv_iadd hx hb dX5_waterCamel_152 ?_
          refine k_V0 hc [.int i, .int ((rget 6 ((upC (upC cs 0 (up2 (cs 0) 9 3 ((cs 0 9 3) - (((rget 6 (cs 0 8 5) (cs 0 5) i) + 1) / 2)))) 0 (up1 ((upC cs 0 (up2 (cs 0) 9 3 ((cs 0 9 3) - (((rget 6 (cs 0 8 5) (cs 0 5) i) + 1) / 2)))) 0) 5 (rset 6 ((upC cs 0 (up2 (cs 0) 9 3 ((cs 0 9 3) - (((rget 6 (cs 0 8 5) (cs 0 5) i) + 1) / 2)))) 0 8 5) ((upC cs 0 (up2 (cs 0) 9 3 ((cs 0 9 3) - (((rget 6 (cs 0 8 5) (cs 0 5) i) + 1) / 2)))) 0 5) i 0))) 0 8 7) ((upC (upC cs 0 (up2 (cs 0) 9 3 ((cs 0 9 3) - (((rget 6 (cs 0 8 5) (cs 0 5) i) + 1) / 2)))) 0 (up1 ((upC cs 0 (up2 (cs 0) 9 3 ((cs 0 9 3) - (((rget 6 (cs 0 8 5) (cs 0 5) i) + 1) / 2)))) 0) 5 (rset 6 ((upC cs 0 (up2 (cs 0) 9 3 ((cs 0 9 3) - (((rget 6 (cs 0 8 5) (cs 0 5) i) + 1) / 2)))) 0 8 5) ((upC cs 0 (up2 (cs 0) 9 3 ((cs 0 9 3) - (((rget 6 (cs 0 8 5) (cs 0 5) i) + 1) / 2)))) 0 5) i 0))) 0 7) i) + (((rget 6 (cs 0 8 5) (cs 0 5) i) + 1) / 2))] cw_X5_381 rfl dX5_waterCamel_153 (c_X3_set l hlf g _ (x + 16) 6 ((upC (upC cs 0 (up2 (cs 0) 9 3 ((cs 0 9 3) - (((rget 6 (cs 0 8 5) (cs 0 5) i) + 1) / 2)))) 0 (up1 ((upC cs 0 (up2 (cs 0) 9 3 ((cs 0 9 3) - (((rget 6 (cs 0 8 5) (cs 0 5) i) + 1) / 2)))) 0) 5 (rset 6 ((upC cs 0 (up2 (cs 0) 9 3 ((cs 0 9 3) - (((rget 6 (cs 0 8 5) (cs 0 5) i) + 1) / 2)))) 0 8 5) ((upC cs 0 (up2 (cs 0) 9 3 ((cs 0 9 3) - (((rget 6 (cs 0 8 5) (cs 0 5) i) + 1) / 2)))) 0 5) i 0))) 0 8 7) ((upC (upC cs 0 (up2 (cs 0) 9 3 ((cs 0 9 3) - (((rget 6 (cs 0 8 5) (cs 0 5) i) + 1) / 2)))) 0 (up1 ((upC cs 0 (up2 (cs 0) 9 3 ((cs 0 9 3) - (((rget 6 (cs 0 8 5) (cs 0 5) i) + 1) / 2)))) 0) 5 (rset 6 ((upC cs 0 (up2 (cs 0) 9 3 ((cs 0 9 3) - (((rget 6 (cs 0 8 5) (cs 0 5) i) + 1) / 2)))) 0 8 5) ((upC cs 0 (up2 (cs 0) 9 3 ((cs 0 9 3) - (((rget 6 (cs 0 8 5) (cs 0 5) i) + 1) / 2)))) 0 5) i 0))) 0 7) i ((rget 6 ((upC (upC cs 0 (up2 (cs 0) 9 3 ((cs 0 9 3) - (((rget 6 (cs 0 8 5) (cs 0 5) i) + 1) / 2)))) 0 (up1 ((upC cs 0 (up2 (cs 0) 9 3 ((cs 0 9 3) - (((rget 6 (cs 0 8 5) (cs 0 5) i) + 1) / 2)))) 0) 5 (rset 6 ((upC cs 0 (up2 (cs 0) 9 3 ((cs 0 9 3) - (((rget 6 (cs 0 8 5) (cs 0 5) i) + 1) / 2)))) 0 8 5) ((upC cs 0 (up2 (cs 0) 9 3 ((cs 0 9 3) - (((rget 6 (cs 0 8 5) (cs 0 5) i) + 1) / 2)))) 0 5) i 0))) 0 8 7) ((upC (upC cs 0 (up2 (cs 0) 9 3 ((cs 0 9 3) - (((rget 6 (cs 0 8 5) (cs 0 5) i) + 1) / 2)))) 0 (up1 ((upC cs 0 (up2 (cs 0) 9 3 ((cs 0 9 3) - (((rget 6 (cs 0 8 5) (cs 0 5) i) + 1) / 2)))) 0) 5 (rset 6 ((upC cs 0 (up2 (cs 0) 9 3 ((cs 0 9 3) - (((rget 6 (cs 0 8 5) (cs 0 5) i) + 1) / 2)))) 0 8 5) ((upC cs 0 (up2 (cs 0) 9 3 ((cs 0 9 3) - (((rget 6 (cs 0 8 5) (cs 0 5) i) + 1) / 2)))) 0 5) i 0))) 0 7) i) + (((rget 6 (cs 0 8 5) (cs 0 5) i) + 1) / 2)) ((hW.flat (k := 0) (a := x + 1) (by decide) rfl).row (k := 7) (r := x + 16) (by decide) rfl rfl) (by decide)) ((hW.flat (k := 0) (a := x + 1) (by decide) rfl).row (k := 7) (r := x + 16) (by decide) rfl rfl).1 hM hS hl.1 rfl rfl ⟨Nat.le_of_ble_eq_true rfl, Nat.le_of_ble_eq_true rfl⟩ ⟨Nat.le_of_ble_eq_true rfl, Nat.le_of_ble_eq_true rfl⟩ (Nat.le_of_ble_eq_true rfl) (fun H locs hM hS => ?_)
          have hM := hR.eq hM (putF_rowf (hW.flat (k := 0) (a := x + 1) (by decide) rfl) (k := 7) (by decide) rfl rfl)
          have hM := hR.eq hM (putC_flat hW (k := 0) (by decide) rfl)
          have hM := hR.eq hM putC_putC
          have hW := ClsAt.put (g := g) (M := M) (x := x) (cs := (upC (upC (upC cs 0 (up2 (cs 0) 9 3 ((cs 0 9 3) - (((rget 6 (cs 0 8 5) (cs 0 5) i) + 1) / 2)))) 0 (up1 ((upC cs 0 (up2 (cs 0) 9 3 ((cs 0 9 3) - (((rget 6 (cs 0 8 5) (cs 0 5) i) + 1) / 2)))) 0) 5 (rset 6 ((upC cs 0 (up2 (cs 0) 9 3 ((cs 0 9 3) - (((rget 6 (cs 0 8 5) (cs 0 5) i) + 1) / 2)))) 0 8 5) ((upC cs 0 (up2 (cs 0) 9 3 ((cs 0 9 3) - (((rget 6 (cs 0 8 5) (cs 0 5) i) + 1) / 2)))) 0 5) i 0))) 0 (up1 ((upC (upC cs 0 (up2 (cs 0) 9 3 ((cs 0 9 3) - (((rget 6 (cs 0 8 5) (cs 0 5) i) + 1) / 2)))) 0 (up1 ((upC cs 0 (up2 (cs 0) 9 3 ((cs 0 9 3) - (((rget 6 (cs 0 8 5) (cs 0 5) i) + 1) / 2)))) 0) 5 (rset 6 ((upC cs 0 (up2 (cs 0) 9 3 ((cs 0 9 3) - (((rget 6 (cs 0 8 5) (cs 0 5) i) + 1) / 2)))) 0 8 5) ((upC cs 0 (up2 (cs 0) 9 3 ((cs 0 9 3) - (((rget 6 (cs 0 8 5) (cs 0 5) i) + 1) / 2)))) 0 5) i 0))) 0) 7 (rset 6 ((upC (upC cs 0 (up2 (cs 0) 9 3 ((cs 0 9 3) - (((rget 6 (cs 0 8 5) (cs 0 5) i) + 1) / 2)))) 0 (up1 ((upC cs 0 (up2 (cs 0) 9 3 ((cs 0 9 3) - (((rget 6 (cs 0 8 5) (cs 0 5) i) + 1) / 2)))) 0) 5 (rset 6 ((upC cs 0 (up2 (cs 0) 9 3 ((cs 0 9 3) - (((rget 6 (cs 0 8 5) (cs 0 5) i) + 1) / 2)))) 0 8 5) ((upC cs 0 (up2 (cs 0) 9 3 ((cs 0 9 3) - (((rget 6 (cs 0 8 5) (cs 0 5) i) + 1) / 2)))) 0 5) i 0))) 0 8 7) ((upC (upC cs 0 (up2 (cs 0) 9 3 ((cs 0 9 3) - (((rget 6 (cs 0 8 5) (cs 0 5) i) + 1) / 2)))) 0 (up1 ((upC cs 0 (up2 (cs 0) 9 3 ((cs 0 9 3) - (((rget 6 (cs 0 8 5) (cs 0 5) i) + 1) / 2)))) 0) 5 (rset 6 ((upC cs 0 (up2 (cs 0) 9 3 ((cs 0 9 3) - (((rget 6 (cs 0 8 5) (cs 0 5) i) + 1) / 2)))) 0 8 5) ((upC cs 0 (up2 (cs 0) 9 3 ((cs 0 9 3) - (((rget 6 (cs 0 8 5) (cs 0 5) i) + 1) / 2)))) 0 5) i 0))) 0 7) i ((rget 6 ((upC (upC cs 0 (up2 (cs 0) 9 3 ((cs 0 9 3) - (((rget 6 (cs 0 8 5) (cs 0 5) i) + 1) / 2)))) 0 (up1 ((upC cs 0 (up2 (cs 0) 9 3 ((cs 0 9 3) - (((rget 6 (cs 0 8 5) (cs 0 5) i) + 1) / 2)))) 0) 5 (rset 6 ((upC cs 0 (up2 (cs 0) 9 3 ((cs 0 9 3) - (((rget 6 (cs 0 8 5) (cs 0 5) i) + 1) / 2)))) 0 8 5) ((upC cs 0 (up2 (cs 0) 9 3 ((cs 0 9 3) - (((rget 6 (cs 0 8 5) (cs 0 5) i) + 1) / 2)))) 0 5) i 0))) 0 8 7) ((upC (upC cs 0 (up2 (cs 0) 9 3 ((cs 0 9 3) - (((rget 6 (cs 0 8 5) (cs 0 5) i) + 1) / 2)))) 0 (up1 ((upC cs 0 (up2 (cs 0) 9 3 ((cs 0 9 3) - (((rget 6 (cs 0 8 5) (cs 0 5) i) + 1) / 2)))) 0) 5 (rset 6 ((upC cs 0 (up2 (cs 0) 9 3 ((cs 0 9 3) - (((rget 6 (cs 0 8 5) (cs 0 5) i) + 1) / 2)))) 0 8 5) ((upC cs 0 (up2 (cs 0) 9 3 ((cs 0 9 3) - (((rget 6 (cs 0 8 5) (cs 0 5) i) + 1) / 2)))) 0 5) i 0))) 0 7) i) + (((rget 6 (cs 0 8 5) (cs 0 5) i) + 1) / 2))))))
          refine lv_aload_n hx hb dX5_waterCamel_156 rfl (lv_at hl 2 rfl) ?_
          refine gt_X5_10 hc dX5_waterCamel_157 hM hW.o rfl ?_
          refine gt_X5_321 hc dX5_waterCamel_160 hM (hW.flat (k := 0) (a := x + 1) (by decide) rfl).o rfl ?_
          exact k_iret hc hr dX5_waterCamel_163 hM hS (Nat.le_of_ble_eq_true rfl) (Nat.le_of_ble_eq_true rfl) (by first | (simp only [wcO, , eq_true c_11, eq_false c_29, eq_false c_63, eq_true c_88, rvC_l, rvC_r, rsC_l, rsC_r, upC_at, upC_upC, not_false_eq_true, not_true_eq_false, and_true, true_and, and_false, false_and, and_self, ↓reduceIte, or_true, true_or, or_self, or_false, false_or]; done) | (simp only [wcO, , eq_true c_11, eq_false c_29, eq_false c_63, eq_true c_88, rvC_l, rvC_r, rsC_l, rsC_r, upC_at, upC_upC, not_false_eq_true, not_true_eq_false, and_true, true_and, and_false, false_and, and_self, ↓reduceIte, or_true, true_or, or_self, or_false, false_or]; rfl))
        · skip
          refine lv_aload_n hx hb dX5_waterCamel_91 rfl (lv_at hl 2 rfl) ?_
          refine lv_bipush (v := 9) hx hb dX5_waterCamel_92 (by decide) ?_
          refine lv_iload_n hx hb dX5_waterCamel_94 rfl (lv_at hl 0 rfl) ?_
          refine lv_aload_n hx hb dX5_waterCamel_95 rfl (lv_at hl 2 rfl) ?_
          refine gt_X5_10 hc dX5_waterCamel_96 hM hW.o rfl ?_
          refine gt_X5_321 hc dX5_waterCamel_99 hM (hW.flat (k := 0) (a := x + 1) (by decide) rfl).o rfl ?_
          refine lv_isub hx hb dX5_waterCamel_102 ?_
          refine k_V1 hc [.int 9, .int ((((rget 6 (cs 0 8 5) (cs 0 5) i) + 1) / 2) - (cs 0 9 3))] cw_X5_352 rfl dX5_waterCamel_103 (c_X5_refuse l hlf g _ x cs 9 ((((rget 6 (cs 0 8 5) (cs 0 5) i) + 1) / 2) - (cs 0 9 3)) hW) hW.o hM hS hl.1 rfl rfl ⟨Nat.le_of_ble_eq_true rfl, Nat.le_of_ble_eq_true rfl⟩ ⟨Nat.le_of_ble_eq_true rfl, Nat.le_of_ble_eq_true rfl⟩ (Nat.le_of_ble_eq_true rfl) (fun H locs hM hS => ?_)
          have hW := ClsAt.put (g := g) (M := M) (x := x) (cs := (rfS cs 9 ((((rget 6 (cs 0 8 5) (cs 0 5) i) + 1) / 2) - (cs 0 9 3))))
          exact k_iret hc hr dX5_waterCamel_106 hM hS (Nat.le_of_ble_eq_true rfl) (Nat.le_of_ble_eq_true rfl) (by first | (simp only [wcO, , eq_true c_11, eq_false c_29, eq_false c_63, eq_false c_88, rvC_l, rvC_r, rsC_l, rsC_r, upC_at, upC_upC, not_false_eq_true, not_true_eq_false, and_true, true_and, and_false, false_and, and_self, ↓reduceIte, or_true, true_or, or_self, or_false, false_or]; done) | (simp only [wcO, , eq_true c_11, eq_false c_29, eq_false c_63, eq_false c_88, rvC_l, rvC_r, rsC_l, rsC_r, upC_at, upC_upC, not_false_eq_true, not_true_eq_false, and_true, true_and, and_false, false_and, and_self, ↓reduceIte, or_true, true_or, or_self, or_false, false_or]; rfl))
      · skip
        refine lv_aload_n hx hb dX5_waterCamel_66 rfl (lv_at hl 1 rfl) ?_
        refine lv_bipush (v := 10) hx hb dX5_waterCamel_67 (by decide) ?_
        refine lv_iload_n hx hb dX5_waterCamel_69 rfl (lv_at hl 2 rfl) ?_
        refine k_V1 hc [.int 10, .int i] cw_X5_352 rfl dX5_waterCamel_70 (c_X5_refuse l hlf g _ x cs 10 i hW) hW.o hM hS hl.1 rfl rfl ⟨Nat.le_of_ble_eq_true rfl, Nat.le_of_ble_eq_true rfl⟩ ⟨Nat.le_of_ble_eq_true rfl, Nat.le_of_ble_eq_true rfl⟩ (Nat.le_of_ble_eq_true rfl) (fun H locs hM hS => ?_)
        have hW := ClsAt.put (g := g) (M := M) (x := x) (cs := (rfS cs 10 i))
        exact k_iret hc hr dX5_waterCamel_73 hM hS (Nat.le_of_ble_eq_true rfl) (Nat.le_of_ble_eq_true rfl) (by first | (simp only [wcO, , eq_true c_11, eq_false c_29, eq_true c_63, rvC_l, rvC_r, rsC_l, rsC_r, upC_at, upC_upC, not_false_eq_true, not_true_eq_false, and_true, true_and, and_false, false_and, and_self, ↓reduceIte, or_true, true_or, or_self, or_false, false_or]; done) | (simp only [wcO, , eq_true c_11, eq_false c_29, eq_true c_63, rvC_l, rvC_r, rsC_l, rsC_r, upC_at, upC_upC, not_false_eq_true, not_true_eq_false, and_true, true_and, and_false, false_and, and_self, ↓reduceIte, or_true, true_or, or_self, or_false, false_or]; rfl))
    · skip
      have c_29 := bI_ne.mp c_29
      refine lv_aload_n hx hb dX5_waterCamel_32 rfl (lv_at hl 0 rfl) ?_
      refine lv_bipush (v := 8) hx hb dX5_waterCamel_33 (by decide) ?_
      refine lv_aload_n hx hb dX5_waterCamel_35 rfl (lv_at hl 0 rfl) ?_
      refine gt_X5_10 hc dX5_waterCamel_36 hM hW.o rfl ?_
      refine gt_X5_137 hc dX5_waterCamel_39 hM (hW.flat (k := 0) (a := x + 1) (by decide) rfl).o rfl ?_
      refine lv_iload_n hx hb dX5_waterCamel_42 rfl (lv_at hl 1 rfl) ?_
      refine k_V1 hc [.int i] cw_X5_120 rfl dX5_waterCamel_43 (c_X3_get l hlf g _ (x + 10) 6 (cs 0 8 4) (cs 0 4) i ((hW.flat (k := 0) (a := x + 1) (by decide) rfl).row (k := 4) (r := x + 10) (by decide) rfl rfl) (by decide)) ((hW.flat (k := 0) (a := x + 1) (by decide) rfl).row (k := 4) (r := x + 10) (by decide) rfl rfl).1 hM hS hl.1 rfl rfl ⟨Nat.le_of_ble_eq_true rfl, Nat.le_of_ble_eq_true rfl⟩ ⟨Nat.le_of_ble_eq_true rfl, Nat.le_of_ble_eq_true rfl⟩ (Nat.le_of_ble_eq_true rfl) (fun H locs hM hS => ?_)
      refine k_V1 hc [.int 8, .int (rget 6 (cs 0 8 4) (cs 0 4) i)] cw_X5_352 rfl dX5_waterCamel_46 (c_X5_refuse l hlf g _ x cs 8 (rget 6 (cs 0 8 4) (cs 0 4) i) hW) hW.o hM hS hl.1 rfl rfl ⟨Nat.le_of_ble_eq_true rfl, Nat.le_of_ble_eq_true rfl⟩ ⟨Nat.le_of_ble_eq_true rfl, Nat.le_of_ble_eq_true rfl⟩ (Nat.le_of_ble_eq_true rfl) (fun H locs hM hS => ?_)
      have hW := ClsAt.put (g := g) (M := M) (x := x) (cs := (rfS cs 8 (rget 6 (cs 0 8 4) (cs 0 4) i)))
      exact k_iret hc hr dX5_waterCamel_49 hM hS (Nat.le_of_ble_eq_true rfl) (Nat.le_of_ble_eq_true rfl) (by first | (simp only [wcO, , eq_true c_11, eq_true c_29, rvC_l, rvC_r, rsC_l, rsC_r, upC_at, upC_upC, not_false_eq_true, not_true_eq_false, and_true, true_and, and_false, false_and, and_self, ↓reduceIte, or_true, true_or, or_self, or_false, false_or]; done) | (simp only [wcO, , eq_true c_11, eq_true c_29, rvC_l, rvC_r, rsC_l, rsC_r, upC_at, upC_upC, not_false_eq_true, not_true_eq_false, and_true, true_and, and_false, false_and, and_self, ↓reduceIte, or_true, true_or, or_self, or_false, false_or]; rfl))
  · skip
    have c_11 := bI_eq.mp c_11
    refine lv_aload_n hx hb dX5_waterCamel_14 rfl (lv_at hl 0 rfl) ?_
    refine lv_iconst (v := 3) hx hb dX5_waterCamel_15 (by decide) ?_
    refine lv_iload_n hx hb dX5_waterCamel_16 rfl (lv_at hl 1 rfl) ?_
    refine k_V1 hc [.int 3, .int i] cw_X5_352 rfl dX5_waterCamel_17 (c_X5_refuse l hlf g _ x cs 3 i hW) hW.o hM hS hl.1 rfl rfl ⟨Nat.le_of_ble_eq_true rfl, Nat.le_of_ble_eq_true rfl⟩ ⟨Nat.le_of_ble_eq_true rfl, Nat.le_of_ble_eq_true rfl⟩ (Nat.le_of_ble_eq_true rfl) (fun H locs hM hS => ?_)
    have hW := ClsAt.put (g := g) (M := M) (x := x) (cs := (rfS cs 3 i))
    exact k_iret hc hr dX5_waterCamel_20 hM hS (Nat.le_of_ble_eq_true rfl) (Nat.le_of_ble_eq_true rfl) (by first | (simp only [wcO, , eq_false c_11, rvC_l, rvC_r, rsC_l, rsC_r, upC_at, upC_upC, not_false_eq_true, not_true_eq_false, and_true, true_and, and_false, false_and, and_self, ↓reduceIte, or_true, true_or, or_self, or_false, false_or]; done) | (simp only [wcO, , eq_false c_11, rvC_l, rvC_r, rsC_l, rsC_r, upC_at, upC_upC, not_false_eq_true, not_true_eq_false, and_true, true_and, and_false, false_and, and_self, ↓reduceIte, or_true, true_or, or_self, or_false, false_or]; rfl))
set_option maxHeartbeats 4000000 in
set_option maxRecDepth 100000 in
theorem c_X5_bringWater (l : Launch) (hlf : l.stackTraces = false) (g : GC) (M : HM) (x : Nat) (cs : CS) (i : Int32) (hW : ClsAt g M x cs) : KM g l yX5_bringWater cX5_bringWater 2 (some .int) 2 0 0 [.ref x, .int i] M (.inl (some (.int (rvC (bwO (cs 0) i))), (putC g M x (rsC cs (bwO (cs 0) i))))) := by
  refine k_meth hlf (by decide) (Nat.le_of_ble_eq_true rfl) fun p e s m below meth c ls hc hr hnx hM hS hl => ?_
  have hc : Cx g p l s m [.ref x, .int i].toArray meth c cX5_bringWater 2 RX5 := hc
  have hx := hc.1
  have hb := hc.2.1
  have hl : lv_has ls 2 [(0, .ref x), (1, .int i)] := hl
  refine lv_iload_n hx hb dX5_bringWater_0 rfl (lv_at hl 1 rfl) ?_
  refine lv_iconst (v := 1) hx hb dX5_bringWater_1 (by decide) ?_
  refine lv_icmp_lt (tgt := 11) hx hb dX5_bringWater_2 (by decide) (fun c_2 => ?_) (fun c_2 => ?_)
  · skip
    refine lv_aload_n hx hb dX5_bringWater_11 rfl (lv_at hl 0 rfl) ?_
    refine lv_iconst (v := 1) hx hb dX5_bringWater_12 (by decide) ?_
    refine lv_iconst (v := 0) hx hb dX5_bringWater_13 (by decide) ?_
    refine k_V1 hc [.int 1, .int 0] cw_X5_352 rfl dX5_bringWater_14 (c_X5_refuse l hlf g _ x cs 1 0 hW) hW.o hM hS hl.1 rfl rfl ⟨Nat.le_of_ble_eq_true rfl, Nat.le_of_ble_eq_true rfl⟩ ⟨Nat.le_of_ble_eq_true rfl, Nat.le_of_ble_eq_true rfl⟩ (Nat.le_of_ble_eq_true rfl) (fun H locs hM hS => ?_)
    have hW := ClsAt.put (g := g) (M := M) (x := x) (cs := (rfS cs 1 0))
    exact k_iret hc hr dX5_bringWater_17 hM hS (Nat.le_of_ble_eq_true rfl) (Nat.le_of_ble_eq_true rfl) (by first | (simp only [bwO, , eq_true c_2, rvC_l, rvC_r, rsC_l, rsC_r, upC_at, upC_upC, not_false_eq_true, not_true_eq_false, and_true, true_and, and_false, false_and, and_self, ↓reduceIte, or_true, true_or, or_self, or_false, false_or]; done) | (simp only [bwO, , eq_true c_2, rvC_l, rvC_r, rsC_l, rsC_r, upC_at, upC_upC, not_false_eq_true, not_true_eq_false, and_true, true_and, and_false, false_and, and_self, ↓reduceIte, or_true, true_or, or_self, or_false, false_or]; rfl))
  · skip
    refine lv_iload_n hx hb dX5_bringWater_5 rfl (lv_at hl 1 rfl) ?_
    refine lv_bipush (v := 100) hx hb dX5_bringWater_6 (by decide) ?_
    refine lv_icmp_le (tgt := 18) hx hb dX5_bringWater_8 (by decide) (fun c_8 => ?_) (fun c_8 => ?_)
    · skip
      refine lv_aload_n hx hb dX5_bringWater_18 rfl (lv_at hl 0 rfl) ?_
      refine gt_X5_10 hc dX5_bringWater_19 hM hW.o rfl ?_
      refine gt_X5_321 hc dX5_bringWater_22 hM (hW.flat (k := 0) (a := x + 1) (by decide) rfl).o rfl ?_
      refine lv_iload_n hx hb dX5_bringWater_25 rfl (lv_at hl 1 rfl) ?_
      refine lv_iadd hx hb dX5_bringWater_26 ?_
      refine lv_sipush (v := 200) hx hb dX5_bringWater_27 (by decide) ?_
      refine lv_icmp_le (tgt := 42) hx hb dX5_bringWater_30 (by decide) (fun c_30 => ?_) (fun c_30 => ?_)
      · skip
        refine lv_aload_n hx hb dX5_bringWater_42 rfl (lv_at hl 0 rfl) ?_
        refine gt_X5_10 hc dX5_bringWater_43 hM hW.o rfl ?_
        refine lv_dup hx hb dX5_bringWater_46 rfl ?_
        refine gt_X5_321 hc dX5_bringWater_47 hM (hW.flat (k := 0) (a := x + 1) (by decide) rfl).o rfl ?_
        refine lv_iload_n hx hb dX5_bringWater_50 rfl (lv_at hl 1 rfl) ?_
        refine lv_iadd hx hb dX5_bringWater_51 ?_
        refine pt_X5_321 hc dX5_bringWater_52 hM hS (hW.flat (k := 0) (a := x + 1) (by decide) rfl).o rfl rfl (Nat.le_of_ble_eq_true rfl) (fun H locs hM hS => ?_)
        have hM := hR.eq hM (putF_fld (hW.flat (k := 0) (a := x + 1) (by decide) rfl) 3 (v := ((cs 0 9 3) + i)) fl_s3)
        have hM := hR.eq hM (putC_flat hW (k := 0) (by decide) rfl)
        have hW := ClsAt.put (g := g) (M := M) (x := x) (cs := (upC cs 0 (up2 (cs 0) 9 3 ((cs 0 9 3) + i))))
        refine lv_aload_n hx hb dX5_bringWater_55 rfl (lv_at hl 0 rfl) ?_
        refine gt_X5_10 hc dX5_bringWater_56 hM hW.o rfl ?_
        refine gt_X5_321 hc dX5_bringWater_59 hM (hW.flat (k := 0) (a := x + 1) (by decide) rfl).o rfl ?_
        exact k_iret hc hr dX5_bringWater_62 hM hS (Nat.le_of_ble_eq_true rfl) (Nat.le_of_ble_eq_true rfl) (by first | (simp only [bwO, , eq_false c_2, eq_true c_8, eq_true c_30, rvC_l, rvC_r, rsC_l, rsC_r, upC_at, upC_upC, not_false_eq_true, not_true_eq_false, and_true, true_and, and_false, false_and, and_self, ↓reduceIte, or_true, true_or, or_self, or_false, false_or]; done) | (simp only [bwO, , eq_false c_2, eq_true c_8, eq_true c_30, rvC_l, rvC_r, rsC_l, rsC_r, upC_at, upC_upC, not_false_eq_true, not_true_eq_false, and_true, true_and, and_false, false_and, and_self, ↓reduceIte, or_true, true_or, or_self, or_false, false_or]; rfl))
      · skip
        refine lv_aload_n hx hb dX5_bringWater_33 rfl (lv_at hl 0 rfl) ?_
        refine lv_iconst (v := 2) hx hb dX5_bringWater_34 (by decide) ?_
        refine lv_sipush (v := 200) hx hb dX5_bringWater_35 (by decide) ?_
        refine k_V1 hc [.int 2, .int 200] cw_X5_352 rfl dX5_bringWater_38 (c_X5_refuse l hlf g _ x cs 2 200 hW) hW.o hM hS hl.1 rfl rfl ⟨Nat.le_of_ble_eq_true rfl, Nat.le_of_ble_eq_true rfl⟩ ⟨Nat.le_of_ble_eq_true rfl, Nat.le_of_ble_eq_true rfl⟩ (Nat.le_of_ble_eq_true rfl) (fun H locs hM hS => ?_)
        have hW := ClsAt.put (g := g) (M := M) (x := x) (cs := (rfS cs 2 200))
        exact k_iret hc hr dX5_bringWater_41 hM hS (Nat.le_of_ble_eq_true rfl) (Nat.le_of_ble_eq_true rfl) (by first | (simp only [bwO, , eq_false c_2, eq_true c_8, eq_false c_30, rvC_l, rvC_r, rsC_l, rsC_r, upC_at, upC_upC, not_false_eq_true, not_true_eq_false, and_true, true_and, and_false, false_and, and_self, ↓reduceIte, or_true, true_or, or_self, or_false, false_or]; done) | (simp only [bwO, , eq_false c_2, eq_true c_8, eq_false c_30, rvC_l, rvC_r, rsC_l, rsC_r, upC_at, upC_upC, not_false_eq_true, not_true_eq_false, and_true, true_and, and_false, false_and, and_self, ↓reduceIte, or_true, true_or, or_self, or_false, false_or]; rfl))
    · skip
      refine lv_aload_n hx hb dX5_bringWater_11 rfl (lv_at hl 0 rfl) ?_
      refine lv_iconst (v := 1) hx hb dX5_bringWater_12 (by decide) ?_
      refine lv_iconst (v := 0) hx hb dX5_bringWater_13 (by decide) ?_
      refine k_V1 hc [.int 1, .int 0] cw_X5_352 rfl dX5_bringWater_14 (c_X5_refuse l hlf g _ x cs 1 0 hW) hW.o hM hS hl.1 rfl rfl ⟨Nat.le_of_ble_eq_true rfl, Nat.le_of_ble_eq_true rfl⟩ ⟨Nat.le_of_ble_eq_true rfl, Nat.le_of_ble_eq_true rfl⟩ (Nat.le_of_ble_eq_true rfl) (fun H locs hM hS => ?_)
      have hW := ClsAt.put (g := g) (M := M) (x := x) (cs := (rfS cs 1 0))
      exact k_iret hc hr dX5_bringWater_17 hM hS (Nat.le_of_ble_eq_true rfl) (Nat.le_of_ble_eq_true rfl) (by first | (simp only [bwO, , eq_false c_2, eq_false c_8, rvC_l, rvC_r, rsC_l, rsC_r, upC_at, upC_upC, not_false_eq_true, not_true_eq_false, and_true, true_and, and_false, false_and, and_self, ↓reduceIte, or_true, true_or, or_self, or_false, false_or]; done) | (simp only [bwO, , eq_false c_2, eq_false c_8, rvC_l, rvC_r, rsC_l, rsC_r, upC_at, upC_upC, not_false_eq_true, not_true_eq_false, and_true, true_and, and_false, false_and, and_self, ↓reduceIte, or_true, true_or, or_self, or_false, false_or]; rfl))
set_option maxHeartbeats 4000000 in
set_option maxRecDepth 100000 in
theorem c_X5_passHours (l : Launch) (hlf : l.stackTraces = false) (g : GC) (M : HM) (x : Nat) (cs : CS) (i : Int32) (hW : ClsAt g M x cs) : KM g l yX5_passHours cX5_passHours 4 (some .int) 8 0 0 [.ref x, .int i] M (.inl (some (.int (rvC (phO (cs 0) i))), (putC g M x (rsC cs (phO (cs 0) i))))) := by
  refine k_meth hlf (by decide) (Nat.le_of_ble_eq_true rfl) fun p e s m below meth c ls hc hr hnx hM hS hl => ?_
  have hc : Cx g p l s m [.ref x, .int i].toArray meth c cX5_passHours 4 RX5 := hc
  have hx := hc.1
  have hb := hc.2.1
  have hl : lv_has ls 4 [(0, .ref x), (1, .int i)] := hl
  refine lv_iload_n hx hb dX5_passHours_0 rfl (lv_at hl 1 rfl) ?_
  refine lv_iconst (v := 1) hx hb dX5_passHours_1 (by decide) ?_
  refine lv_icmp_lt (tgt := 11) hx hb dX5_passHours_2 (by decide) (fun c_2 => ?_) (fun c_2 => ?_)
  · skip
    refine lv_aload_n hx hb dX5_passHours_11 rfl (lv_at hl 0 rfl) ?_
    refine lv_iconst (v := 1) hx hb dX5_passHours_12 (by decide) ?_
    refine lv_iconst (v := 0) hx hb dX5_passHours_13 (by decide) ?_
    refine k_V1 hc [.int 1, .int 0] cw_X5_352 rfl dX5_passHours_14 (c_X5_refuse l hlf g _ x cs 1 0 hW) hW.o hM hS hl.1 rfl rfl ⟨Nat.le_of_ble_eq_true rfl, Nat.le_of_ble_eq_true rfl⟩ ⟨Nat.le_of_ble_eq_true rfl, Nat.le_of_ble_eq_true rfl⟩ (Nat.le_of_ble_eq_true rfl) (fun H locs hM hS => ?_)
    have hW := ClsAt.put (g := g) (M := M) (x := x) (cs := (rfS cs 1 0))
    exact k_iret hc hr dX5_passHours_17 hM hS (Nat.le_of_ble_eq_true rfl) (Nat.le_of_ble_eq_true rfl) (by first | (simp only [phO, , eq_true c_2, rvC_l, rvC_r, rsC_l, rsC_r, upC_at, upC_upC, not_false_eq_true, not_true_eq_false, and_true, true_and, and_false, false_and, and_self, ↓reduceIte, or_true, true_or, or_self, or_false, false_or]; done) | (simp only [phO, , eq_true c_2, rvC_l, rvC_r, rsC_l, rsC_r, upC_at, upC_upC, not_false_eq_true, not_true_eq_false, and_true, true_and, and_false, false_and, and_self, ↓reduceIte, or_true, true_or, or_self, or_false, false_or]; rfl))
  · skip
    refine lv_iload_n hx hb dX5_passHours_5 rfl (lv_at hl 1 rfl) ?_
    refine lv_bipush (v := 48) hx hb dX5_passHours_6 (by decide) ?_
    refine lv_icmp_le (tgt := 18) hx hb dX5_passHours_8 (by decide) (fun c_8 => ?_) (fun c_8 => ?_)
    · skip
      refine lv_aload_n hx hb dX5_passHours_18 rfl (lv_at hl 0 rfl) ?_
      refine gt_X5_10 hc dX5_passHours_19 hM hW.o rfl ?_
      refine k_V1 hc [] cw_X5_318 rfl dX5_passHours_22 (c_X0_countLost l hlf g _ (x + 1) (cs 0) (hW.flat (k := 0) (a := x + 1) (by decide) rfl)) (hW.flat (k := 0) (a := x + 1) (by decide) rfl).o hM hS hl.1 rfl rfl ⟨Nat.le_of_ble_eq_true rfl, Nat.le_of_ble_eq_true rfl⟩ ⟨Nat.le_of_ble_eq_true rfl, Nat.le_of_ble_eq_true rfl⟩ (Nat.le_of_ble_eq_true rfl) (fun H locs hM hS => ?_)
      refine lv_istore_n (lv' := [(2, .int (clF (cs 0))), (0, .ref x), (1, .int i)]) hx hb dX5_passHours_25 rfl hl (by decide) rfl (fun ls hl => ?_)
      refine lv_iconst (v := 0) hx hb dX5_passHours_26 (by decide) ?_
      refine lv_istore_n (lv' := [(3, .int 0), (2, .int (clF (cs 0))), (0, .ref x), (1, .int i)]) hx hb dX5_passHours_27 rfl hl (by decide) rfl (fun ls hl => ?_)
      have lp_28 : ∀ (D k : Nat), i.toNatClampNeg - k < D → k ≤ i.toNatClampNeg → ∀ (ls : Array Slot) (H : Heap) (locs : List Loc), hR g (putC g M x (upC cs 0 (itr phX (cs 0) k))) H → va_S (gA g) s.heap H locs → lv_has ls 4 [(3, .int (nI k)), (2, .int (clF (cs 0))), (0, .ref x), (1, .int i)] → W p l e (rmOf 8 0 0) s m [.ref x, .int i].toArray below meth c H locs 0 0 (vx_MQ below (KQ g (.inl (some (.int (rvC (phO (cs 0) i))), (putC g M x (rsC cs (phO (cs 0) i)))))) (KX g (.inl (some (.int (rvC (phO (cs 0) i))), (putC g M x (rsC cs (phO (cs 0) i)))))) [.ref x, .int i].toArray s 0 0 (gA g)) (F0 m 28 ls []) := by
        intro D
        induction D with
        | zero => intro k hD; exact absurd hD (Nat.not_lt_zero _)
        | succ D ih_28 =>
          intro k hD hk ls H locs hM hS hl
          have hW := ClsAt.put (g := g) (M := M) (x := x) (cs := (upC cs 0 (itr phX (cs 0) k)))
          refine lv_iload_n hx hb dX5_passHours_28 rfl (lv_at hl 0 rfl) ?_
          refine lv_iload_n hx hb dX5_passHours_29 rfl (lv_at hl 3 rfl) ?_
          refine lv_icmp_ge (tgt := 46) hx hb dX5_passHours_30 (by decide) (fun c_30 => ?_) (fun c_30 => ?_)
          · skip
            have c_30 := (k_le (by have := k_clamp_lt i; omega)).mp c_30
            refine lv_aload_n hx hb dX5_passHours_46 rfl (lv_at hl 2 rfl) ?_
            refine gt_X5_10 hc dX5_passHours_47 hM hW.o rfl ?_
            refine k_V1 hc [] cw_X5_318 rfl dX5_passHours_50 (c_X0_countLost l hlf g _ (x + 1) ((upC cs 0 (itr phX (cs 0) k)) 0) (hW.flat (k := 0) (a := x + 1) (by decide) rfl)) (hW.flat (k := 0) (a := x + 1) (by decide) rfl).o hM hS hl.1 rfl rfl ⟨Nat.le_of_ble_eq_true rfl, Nat.le_of_ble_eq_true rfl⟩ ⟨Nat.le_of_ble_eq_true rfl, Nat.le_of_ble_eq_true rfl⟩ (Nat.le_of_ble_eq_true rfl) (fun H locs hM hS => ?_)
            refine lv_iload_n hx hb dX5_passHours_53 rfl (lv_at hl 1 rfl) ?_
            refine lv_isub hx hb dX5_passHours_54 ?_
            exact k_iret hc hr dX5_passHours_55 hM hS (Nat.le_of_ble_eq_true rfl) (Nat.le_of_ble_eq_true rfl) (by rw [show k = i.toNatClampNeg by omega]; simp only [phO, eq_false c_2, eq_true c_8, eq_true c_30, upC_at, not_false_eq_true, not_true_eq_false, and_true, true_and, and_false, false_and, and_self, ↓reduceIte, or_true, true_or, or_self, or_false, false_or]; rfl)
          · skip
            have c_30 : ¬ i.toNatClampNeg ≤ k := fun h => c_30 ((k_le (by have := k_clamp_lt i; omega)).mpr h)
            refine lv_aload_n hx hb dX5_passHours_33 rfl (lv_at hl 2 rfl) ?_
            refine gt_X5_10 hc dX5_passHours_34 hM hW.o rfl ?_
            refine k_V0 hc [] cw_X5_384 rfl dX5_passHours_37 (c_X0_passHour l hlf g _ (x + 1) ((upC cs 0 (itr phX (cs 0) k)) 0) (hW.flat (k := 0) (a := x + 1) (by decide) rfl)) (hW.flat (k := 0) (a := x + 1) (by decide) rfl).o hM hS hl.1 rfl rfl ⟨Nat.le_of_ble_eq_true rfl, Nat.le_of_ble_eq_true rfl⟩ ⟨Nat.le_of_ble_eq_true rfl, Nat.le_of_ble_eq_true rfl⟩ (Nat.le_of_ble_eq_true rfl) (fun H locs hM hS => ?_)
            have hM := hR.eq hM (putC_flat hW (k := 0) (by decide) rfl)
            have hM := hR.eq hM putC_putC
            have hW := ClsAt.put (g := g) (M := M) (x := x) (cs := (upC (upC cs 0 (itr phX (cs 0) k)) 0 (phF ((upC cs 0 (itr phX (cs 0) k)) 0))))
            refine lv_iinc (v := (nI (k + 1))) (lv' := [(3, .int (nI (k + 1))), (2, .int (clF (cs 0))), (0, .ref x), (1, .int i)]) hx hb dX5_passHours_40 hl (k := 0) rfl (k_inc1 _) (by decide) rfl (fun ls hl => ?_)
            refine lv_goto (tgt := 28) hx hb dX5_passHours_43 (by decide) ?_
            have hM : hR g (putC g M x (upC cs 0 (itr phX (cs 0) (k + 1)))) _ := hR.eq hM (congrArg (putC g M x) (by rw [upC_upC, upC_at, itr_s]; rfl))
            exact ih_28 (k + 1) (by omega) (by omega) ls _ _ hM hS (lv_sub hl [0, 1, 2, 3] rfl)
      have z_3 : 0 = (nI 0) := rfl
      have hl := lv_chg (lv_sub hl [0, 1, 2, 3] rfl) z_3
      have hM : hR g (putC g M x (upC cs 0 (itr phX (cs 0) 0))) _ := hR.eq hM ((congrArg (putC g M x) upC_id).trans (putC_same hW)).symm
      exact lp_28 (i.toNatClampNeg + 1) 0 (by omega) (by omega) ls _ _ hM hS (lv_sub hl [0, 1, 2, 3] rfl)
    · skip
      refine lv_aload_n hx hb dX5_passHours_11 rfl (lv_at hl 0 rfl) ?_
      refine lv_iconst (v := 1) hx hb dX5_passHours_12 (by decide) ?_
      refine lv_iconst (v := 0) hx hb dX5_passHours_13 (by decide) ?_
      refine k_V1 hc [.int 1, .int 0] cw_X5_352 rfl dX5_passHours_14 (c_X5_refuse l hlf g _ x cs 1 0 hW) hW.o hM hS hl.1 rfl rfl ⟨Nat.le_of_ble_eq_true rfl, Nat.le_of_ble_eq_true rfl⟩ ⟨Nat.le_of_ble_eq_true rfl, Nat.le_of_ble_eq_true rfl⟩ (Nat.le_of_ble_eq_true rfl) (fun H locs hM hS => ?_)
      have hW := ClsAt.put (g := g) (M := M) (x := x) (cs := (rfS cs 1 0))
      exact k_iret hc hr dX5_passHours_17 hM hS (Nat.le_of_ble_eq_true rfl) (Nat.le_of_ble_eq_true rfl) (by first | (simp only [phO, , eq_false c_2, eq_false c_8, rvC_l, rvC_r, rsC_l, rsC_r, upC_at, upC_upC, not_false_eq_true, not_true_eq_false, and_true, true_and, and_false, false_and, and_self, ↓reduceIte, or_true, true_or, or_self, or_false, false_or]; done) | (simp only [phO, , eq_false c_2, eq_false c_8, rvC_l, rvC_r, rsC_l, rsC_r, upC_at, upC_upC, not_false_eq_true, not_true_eq_false, and_true, true_and, and_false, false_and, and_self, ↓reduceIte, or_true, true_or, or_self, or_false, false_or]; rfl))
set_option maxHeartbeats 4000000 in
set_option maxRecDepth 100000 in
theorem c_X5_carryOut (l : Launch) (hlf : l.stackTraces = false) (g : GC) (M : HM) (x : Nat) (cs : CS) (v : Int32) (hW : ClsAt g M x cs) : KM g l yX5_carryOut cX5_carryOut 4 (some .int) 9 0 0 [.ref x, .int v, .ref (x + 191)] M (.inl (some (.int (rvC (coO v (gN cs 0) (gN cs 1) (gN cs 2) (cs 0)))), (putC g M x (rsC cs (coO v (gN cs 0) (gN cs 1) (gN cs 2) (cs 0)))))) := by
  refine k_meth hlf (by decide) (Nat.le_of_ble_eq_true rfl) fun p e s m below meth c ls hc hr hnx hM hS hl => ?_
  have hc : Cx g p l s m [.ref x, .int v, .ref (x + 191)].toArray meth c cX5_carryOut 4 RX5 := hc
  have hx := hc.1
  have hb := hc.2.1
  have hl : lv_has ls 4 [(0, .ref x), (1, .int v), (2, .ref (x + 191))] := hl
  refine lv_aload_n hx hb dX5_carryOut_0 rfl (lv_at hl 2 rfl) ?_
  refine lv_iconst (v := 0) hx hb dX5_carryOut_1 (by decide) ?_
  refine k_V1 hc [.int 0] cw_X5_120 rfl dX5_carryOut_2 (c_X3_get l hlf g _ (x + 191) 3 (cs 11 3 0) (cs 11 0) 0 hW.nu (by decide)) hW.nu.1 hM hS hl.1 rfl rfl ⟨Nat.le_of_ble_eq_true rfl, Nat.le_of_ble_eq_true rfl⟩ ⟨Nat.le_of_ble_eq_true rfl, Nat.le_of_ble_eq_true rfl⟩ (Nat.le_of_ble_eq_true rfl) (fun H locs hM hS => ?_)
  refine lv_istore_n (lv' := [(3, .int (rget 3 (cs 11 3 0) (cs 11 0) 0)), (0, .ref x), (1, .int v), (2, .ref (x + 191))]) hx hb dX5_carryOut_5 rfl hl (by decide) rfl (fun ls hl => ?_)
  refine lv_iload_n hx hb dX5_carryOut_6 rfl (lv_at hl 2 rfl) ?_
  by_cases c_7_98 : v = 98
  · skip
    have e_7 : v.toInt = 98 := by rw [c_7_98]; rfl
    refine lv_tableIn (tgt := 123) hx hb dX5_carryOut_7 (by rw [e_7]; decide) (by rw [e_7]; decide) (by rw [e_7]; rfl) (by decide) ?_
    refine lv_aload_n hx hb dX5_carryOut_123 rfl (lv_at hl 1 rfl) ?_
    refine lv_iload_n hx hb dX5_carryOut_124 rfl (lv_at hl 0 rfl) ?_
    refine k_V1 hc [.int (rget 3 (cs 11 3 0) (cs 11 0) 0)] cw_X5_94 rfl dX5_carryOut_125 (c_X5_ringBell l hlf g _ x cs (rget 3 (cs 11 3 0) (cs 11 0) 0) hW) hW.o hM hS hl.1 rfl rfl ⟨Nat.le_of_ble_eq_true rfl, Nat.le_of_ble_eq_true rfl⟩ ⟨Nat.le_of_ble_eq_true rfl, Nat.le_of_ble_eq_true rfl⟩ (Nat.le_of_ble_eq_true rfl) (fun H locs hM hS => ?_)
    have hW := ClsAt.put (g := g) (M := M) (x := x) (cs := (rsC cs (rbO (cs 0) (rget 3 (cs 11 3 0) (cs 11 0) 0))))
    exact k_iret hc hr dX5_carryOut_128 hM hS (Nat.le_of_ble_eq_true rfl) (Nat.le_of_ble_eq_true rfl) (by first | (simp only [coO, , eq_true c_7_98, rvC_l, rvC_r, rsC_l, rsC_r, upC_at, upC_upC, not_false_eq_true, not_true_eq_false, and_true, true_and, and_false, false_and, and_self, ↓reduceIte, or_true, true_or, or_self, or_false, false_or]; done) | (simp only [coO, , eq_true c_7_98, rvC_l, rvC_r, rsC_l, rsC_r, upC_at, upC_upC, not_false_eq_true, not_true_eq_false, and_true, true_and, and_false, false_and, and_self, ↓reduceIte, or_true, true_or, or_self, or_false, false_or]; rfl))
  by_cases c_7_100 : v = 100
  · skip
    have e_7 : v.toInt = 100 := by rw [c_7_100]; rfl
    refine lv_tableIn (tgt := 141) hx hb dX5_carryOut_7 (by rw [e_7]; decide) (by rw [e_7]; decide) (by rw [e_7]; rfl) (by decide) ?_
    refine lv_aload_n hx hb dX5_carryOut_141 rfl (lv_at hl 1 rfl) ?_
    refine lv_iload_n hx hb dX5_carryOut_142 rfl (lv_at hl 0 rfl) ?_
    refine k_V1 hc [.int (rget 3 (cs 11 3 0) (cs 11 0) 0)] cw_X5_103 rfl dX5_carryOut_143 (c_X5_waterCamel l hlf g _ x cs (rget 3 (cs 11 3 0) (cs 11 0) 0) hW) hW.o hM hS hl.1 rfl rfl ⟨Nat.le_of_ble_eq_true rfl, Nat.le_of_ble_eq_true rfl⟩ ⟨Nat.le_of_ble_eq_true rfl, Nat.le_of_ble_eq_true rfl⟩ (Nat.le_of_ble_eq_true rfl) (fun H locs hM hS => ?_)
    have hW := ClsAt.put (g := g) (M := M) (x := x) (cs := (rsC cs (wcO (cs 0) (rget 3 (cs 11 3 0) (cs 11 0) 0))))
    exact k_iret hc hr dX5_carryOut_146 hM hS (Nat.le_of_ble_eq_true rfl) (Nat.le_of_ble_eq_true rfl) (by first | (simp only [coO, , eq_false c_7_98, eq_true c_7_100, rvC_l, rvC_r, rsC_l, rsC_r, upC_at, upC_upC, not_false_eq_true, not_true_eq_false, and_true, true_and, and_false, false_and, and_self, ↓reduceIte, or_true, true_or, or_self, or_false, false_or]; done) | (simp only [coO, , eq_false c_7_98, eq_true c_7_100, rvC_l, rvC_r, rsC_l, rsC_r, upC_at, upC_upC, not_false_eq_true, not_true_eq_false, and_true, true_and, and_false, false_and, and_self, ↓reduceIte, or_true, true_or, or_self, or_false, false_or]; rfl))
  by_cases c_7_101 : v = 101
  · skip
    have e_7 : v.toInt = 101 := by rw [c_7_101]; rfl
    refine lv_tableIn (tgt := 112) hx hb dX5_carryOut_7 (by rw [e_7]; decide) (by rw [e_7]; decide) (by rw [e_7]; rfl) (by decide) ?_
    refine lv_aload_n hx hb dX5_carryOut_112 rfl (lv_at hl 1 rfl) ?_
    refine lv_iload_n hx hb dX5_carryOut_113 rfl (lv_at hl 0 rfl) ?_
    refine lv_aload_n hx hb dX5_carryOut_114 rfl (lv_at hl 3 rfl) ?_
    refine lv_iconst (v := 1) hx hb dX5_carryOut_115 (by decide) ?_
    refine k_V1 hc [.int 1] cw_X5_120 rfl dX5_carryOut_116 (c_X3_get l hlf g _ (x + 191) 3 (cs 11 3 0) (cs 11 0) 1 hW.nu (by decide)) hW.nu.1 hM hS hl.1 rfl rfl ⟨Nat.le_of_ble_eq_true rfl, Nat.le_of_ble_eq_true rfl⟩ ⟨Nat.le_of_ble_eq_true rfl, Nat.le_of_ble_eq_true rfl⟩ (Nat.le_of_ble_eq_true rfl) (fun H locs hM hS => ?_)
    refine k_V1 hc [.int (rget 3 (cs 11 3 0) (cs 11 0) 0), .int (rget 3 (cs 11 3 0) (cs 11 0) 1)] cw_X5_88 rfl dX5_carryOut_119 (c_X5_eraseDrawn l hlf g _ x cs (rget 3 (cs 11 3 0) (cs 11 0) 0) (rget 3 (cs 11 3 0) (cs 11 0) 1) hW) hW.o hM hS hl.1 rfl rfl ⟨Nat.le_of_ble_eq_true rfl, Nat.le_of_ble_eq_true rfl⟩ ⟨Nat.le_of_ble_eq_true rfl, Nat.le_of_ble_eq_true rfl⟩ (Nat.le_of_ble_eq_true rfl) (fun H locs hM hS => ?_)
    have hW := ClsAt.put (g := g) (M := M) (x := x) (cs := (rsC cs (erO (cs 0) (rget 3 (cs 11 3 0) (cs 11 0) 0) (rget 3 (cs 11 3 0) (cs 11 0) 1))))
    exact k_iret hc hr dX5_carryOut_122 hM hS (Nat.le_of_ble_eq_true rfl) (Nat.le_of_ble_eq_true rfl) (by first | (simp only [coO, , eq_false c_7_98, eq_false c_7_100, eq_true c_7_101, rvC_l, rvC_r, rsC_l, rsC_r, upC_at, upC_upC, not_false_eq_true, not_true_eq_false, and_true, true_and, and_false, false_and, and_self, ↓reduceIte, or_true, true_or, or_self, or_false, false_or]; done) | (simp only [coO, , eq_false c_7_98, eq_false c_7_100, eq_true c_7_101, rvC_l, rvC_r, rsC_l, rsC_r, upC_at, upC_upC, not_false_eq_true, not_true_eq_false, and_true, true_and, and_false, false_and, and_self, ↓reduceIte, or_true, true_or, or_self, or_false, false_or]; rfl))
  by_cases c_7_108 : v = 108
  · skip
    have e_7 : v.toInt = 108 := by rw [c_7_108]; rfl
    refine lv_tableIn (tgt := 135) hx hb dX5_carryOut_7 (by rw [e_7]; decide) (by rw [e_7]; decide) (by rw [e_7]; rfl) (by decide) ?_
    refine lv_aload_n hx hb dX5_carryOut_135 rfl (lv_at hl 1 rfl) ?_
    refine lv_iload_n hx hb dX5_carryOut_136 rfl (lv_at hl 0 rfl) ?_
    refine k_V1 hc [.int (rget 3 (cs 11 3 0) (cs 11 0) 0)] cw_X5_100 rfl dX5_carryOut_137 (c_X5_loosenCamel l hlf g _ x cs (rget 3 (cs 11 3 0) (cs 11 0) 0) hW) hW.o hM hS hl.1 rfl rfl ⟨Nat.le_of_ble_eq_true rfl, Nat.le_of_ble_eq_true rfl⟩ ⟨Nat.le_of_ble_eq_true rfl, Nat.le_of_ble_eq_true rfl⟩ (Nat.le_of_ble_eq_true rfl) (fun H locs hM hS => ?_)
    have hW := ClsAt.put (g := g) (M := M) (x := x) (cs := (rsC cs (loO (cs 0) (rget 3 (cs 11 3 0) (cs 11 0) 0))))
    exact k_iret hc hr dX5_carryOut_140 hM hS (Nat.le_of_ble_eq_true rfl) (Nat.le_of_ble_eq_true rfl) (by first | (simp only [coO, , eq_false c_7_98, eq_false c_7_100, eq_false c_7_101, eq_true c_7_108, rvC_l, rvC_r, rsC_l, rsC_r, upC_at, upC_upC, not_false_eq_true, not_true_eq_false, and_true, true_and, and_false, false_and, and_self, ↓reduceIte, or_true, true_or, or_self, or_false, false_or]; done) | (simp only [coO, , eq_false c_7_98, eq_false c_7_100, eq_false c_7_101, eq_true c_7_108, rvC_l, rvC_r, rsC_l, rsC_r, upC_at, upC_upC, not_false_eq_true, not_true_eq_false, and_true, true_and, and_false, false_and, and_self, ↓reduceIte, or_true, true_or, or_self, or_false, false_or]; rfl))
  by_cases c_7_115 : v = 115
  · skip
    have e_7 : v.toInt = 115 := by rw [c_7_115]; rfl
    refine lv_tableIn (tgt := 96) hx hb dX5_carryOut_7 (by rw [e_7]; decide) (by rw [e_7]; decide) (by rw [e_7]; rfl) (by decide) ?_
    refine lv_aload_n hx hb dX5_carryOut_96 rfl (lv_at hl 1 rfl) ?_
    refine lv_iload_n hx hb dX5_carryOut_97 rfl (lv_at hl 0 rfl) ?_
    refine lv_aload_n hx hb dX5_carryOut_98 rfl (lv_at hl 3 rfl) ?_
    refine lv_iconst (v := 1) hx hb dX5_carryOut_99 (by decide) ?_
    refine k_V1 hc [.int 1] cw_X5_120 rfl dX5_carryOut_100 (c_X3_get l hlf g _ (x + 191) 3 (cs 11 3 0) (cs 11 0) 1 hW.nu (by decide)) hW.nu.1 hM hS hl.1 rfl rfl ⟨Nat.le_of_ble_eq_true rfl, Nat.le_of_ble_eq_true rfl⟩ ⟨Nat.le_of_ble_eq_true rfl, Nat.le_of_ble_eq_true rfl⟩ (Nat.le_of_ble_eq_true rfl) (fun H locs hM hS => ?_)
    refine lv_aload_n hx hb dX5_carryOut_103 rfl (lv_at hl 3 rfl) ?_
    refine lv_iconst (v := 2) hx hb dX5_carryOut_104 (by decide) ?_
    refine k_V1 hc [.int 2] cw_X5_120 rfl dX5_carryOut_105 (c_X3_get l hlf g _ (x + 191) 3 (cs 11 3 0) (cs 11 0) 2 hW.nu (by decide)) hW.nu.1 hM hS hl.1 rfl rfl ⟨Nat.le_of_ble_eq_true rfl, Nat.le_of_ble_eq_true rfl⟩ ⟨Nat.le_of_ble_eq_true rfl, Nat.le_of_ble_eq_true rfl⟩ (Nat.le_of_ble_eq_true rfl) (fun H locs hM hS => ?_)
    refine k_V1 hc [.int (rget 3 (cs 11 3 0) (cs 11 0) 0), .int (rget 3 (cs 11 3 0) (cs 11 0) 1), .int (rget 3 (cs 11 3 0) (cs 11 0) 2)] cw_X5_84 rfl dX5_carryOut_108 (c_X5_drawSighted l hlf g _ x cs (rget 3 (cs 11 3 0) (cs 11 0) 0) (rget 3 (cs 11 3 0) (cs 11 0) 1) (rget 3 (cs 11 3 0) (cs 11 0) 2) hW) hW.o hM hS hl.1 rfl rfl ⟨Nat.le_of_ble_eq_true rfl, Nat.le_of_ble_eq_true rfl⟩ ⟨Nat.le_of_ble_eq_true rfl, Nat.le_of_ble_eq_true rfl⟩ (Nat.le_of_ble_eq_true rfl) (fun H locs hM hS => ?_)
    have hW := ClsAt.put (g := g) (M := M) (x := x) (cs := (rsC cs (sgO (cs 0) (rget 3 (cs 11 3 0) (cs 11 0) 0) (rget 3 (cs 11 3 0) (cs 11 0) 1) (rget 3 (cs 11 3 0) (cs 11 0) 2))))
    exact k_iret hc hr dX5_carryOut_111 hM hS (Nat.le_of_ble_eq_true rfl) (Nat.le_of_ble_eq_true rfl) (by first | (simp only [coO, , eq_false c_7_98, eq_false c_7_100, eq_false c_7_101, eq_false c_7_108, eq_true c_7_115, rvC_l, rvC_r, rsC_l, rsC_r, upC_at, upC_upC, not_false_eq_true, not_true_eq_false, and_true, true_and, and_false, false_and, and_self, ↓reduceIte, or_true, true_or, or_self, or_false, false_or]; done) | (simp only [coO, , eq_false c_7_98, eq_false c_7_100, eq_false c_7_101, eq_false c_7_108, eq_true c_7_115, rvC_l, rvC_r, rsC_l, rsC_r, upC_at, upC_upC, not_false_eq_true, not_true_eq_false, and_true, true_and, and_false, false_and, and_self, ↓reduceIte, or_true, true_or, or_self, or_false, false_or]; rfl))
  by_cases c_7_116 : v = 116
  · skip
    have e_7 : v.toInt = 116 := by rw [c_7_116]; rfl
    refine lv_tableIn (tgt := 129) hx hb dX5_carryOut_7 (by rw [e_7]; decide) (by rw [e_7]; decide) (by rw [e_7]; rfl) (by decide) ?_
    refine lv_aload_n hx hb dX5_carryOut_129 rfl (lv_at hl 1 rfl) ?_
    refine lv_iload_n hx hb dX5_carryOut_130 rfl (lv_at hl 0 rfl) ?_
    refine k_V1 hc [.int (rget 3 (cs 11 3 0) (cs 11 0) 0)] cw_X5_97 rfl dX5_carryOut_131 (c_X5_tieCamel l hlf g _ x cs (rget 3 (cs 11 3 0) (cs 11 0) 0) hW) hW.o hM hS hl.1 rfl rfl ⟨Nat.le_of_ble_eq_true rfl, Nat.le_of_ble_eq_true rfl⟩ ⟨Nat.le_of_ble_eq_true rfl, Nat.le_of_ble_eq_true rfl⟩ (Nat.le_of_ble_eq_true rfl) (fun H locs hM hS => ?_)
    have hW := ClsAt.put (g := g) (M := M) (x := x) (cs := (rsC cs (tiO (cs 0) (rget 3 (cs 11 3 0) (cs 11 0) 0))))
    exact k_iret hc hr dX5_carryOut_134 hM hS (Nat.le_of_ble_eq_true rfl) (Nat.le_of_ble_eq_true rfl) (by first | (simp only [coO, , eq_false c_7_98, eq_false c_7_100, eq_false c_7_101, eq_false c_7_108, eq_false c_7_115, eq_true c_7_116, rvC_l, rvC_r, rsC_l, rsC_r, upC_at, upC_upC, not_false_eq_true, not_true_eq_false, and_true, true_and, and_false, false_and, and_self, ↓reduceIte, or_true, true_or, or_self, or_false, false_or]; done) | (simp only [coO, , eq_false c_7_98, eq_false c_7_100, eq_false c_7_101, eq_false c_7_108, eq_false c_7_115, eq_true c_7_116, rvC_l, rvC_r, rsC_l, rsC_r, upC_at, upC_upC, not_false_eq_true, not_true_eq_false, and_true, true_and, and_false, false_and, and_self, ↓reduceIte, or_true, true_or, or_self, or_false, false_or]; rfl))
  have t_7 : (v.toInt < 98 ∨ 116 < v.toInt) ∨ (¬ v.toInt < 98 ∧ ¬ 116 < v.toInt ∧ (#[(116 : Int), (140 : Int), (134 : Int), (105 : Int), (140 : Int), (140 : Int), (140 : Int), (140 : Int), (140 : Int), (140 : Int), (128 : Int), (140 : Int), (140 : Int), (140 : Int), (140 : Int), (140 : Int), (140 : Int), (89 : Int), (122 : Int)] : Array Int)[(v.toInt - 98).toNat]? = some 140) := by
    by_cases h1 : v.toInt < 98
    · exact Or.inl (Or.inl h1)
    by_cases h2 : 116 < v.toInt
    · exact Or.inl (Or.inr h2)
    exact Or.inr ⟨h1, h2, tab_df (n := 19) (exc := [0, 2, 3, 10, 17, 18]) (by decide) h1 h2 (by decide) (exc_c (tab_ne c_7_98 (by decide) h1) (exc_c (tab_ne c_7_100 (by decide) h1) (exc_c (tab_ne c_7_101 (by decide) h1) (exc_c (tab_ne c_7_108 (by decide) h1) (exc_c (tab_ne c_7_115 (by decide) h1) (exc_c (tab_ne c_7_116 (by decide) h1) exc_n))))))⟩
  refine k_tabDf (tgt := 147) hx hb dX5_carryOut_7 t_7 (by decide) ?_
  refine lv_aload_n hx hb dX5_carryOut_147 rfl (lv_at hl 1 rfl) ?_
  refine lv_iload_n hx hb dX5_carryOut_148 rfl (lv_at hl 0 rfl) ?_
  refine k_V1 hc [.int (rget 3 (cs 11 3 0) (cs 11 0) 0)] cw_X5_109 rfl dX5_carryOut_149 (c_X5_passHours l hlf g _ x cs (rget 3 (cs 11 3 0) (cs 11 0) 0) hW) hW.o hM hS hl.1 rfl rfl ⟨Nat.le_of_ble_eq_true rfl, Nat.le_of_ble_eq_true rfl⟩ ⟨Nat.le_of_ble_eq_true rfl, Nat.le_of_ble_eq_true rfl⟩ (Nat.le_of_ble_eq_true rfl) (fun H locs hM hS => ?_)
  have hW := ClsAt.put (g := g) (M := M) (x := x) (cs := (rsC cs (phO (cs 0) (rget 3 (cs 11 3 0) (cs 11 0) 0))))
  exact k_iret hc hr dX5_carryOut_152 hM hS (Nat.le_of_ble_eq_true rfl) (Nat.le_of_ble_eq_true rfl) (by first | (simp only [coO, , eq_false c_7_98, eq_false c_7_100, eq_false c_7_101, eq_false c_7_108, eq_false c_7_115, eq_false c_7_116, rvC_l, rvC_r, rsC_l, rsC_r, upC_at, upC_upC, not_false_eq_true, not_true_eq_false, and_true, true_and, and_false, false_and, and_self, ↓reduceIte, or_true, true_or, or_self, or_false, false_or]; done) | (simp only [coO, , eq_false c_7_98, eq_false c_7_100, eq_false c_7_101, eq_false c_7_108, eq_false c_7_115, eq_false c_7_116, rvC_l, rvC_r, rsC_l, rsC_r, upC_at, upC_upC, not_false_eq_true, not_true_eq_false, and_true, true_and, and_false, false_and, and_self, ↓reduceIte, or_true, true_or, or_self, or_false, false_or]; rfl))
set_option maxHeartbeats 4000000 in
set_option maxRecDepth 100000 in
theorem c_X5_stake (l : Launch) (hlf : l.stackTraces = false) (g : GC) (M : HM) (x : Nat) (cs : CS) (i : Int32) (hW : ClsAt g M x cs) (hn : nxOk cs) : KM g l yX5_stake cX5_stake 2 (some .int) 7 1 6 [.ref x, .int i] M (if ¬ rvC (dsO (cs 0) i) = -1 then .inl (some (.int (rvC (dsO (cs 0) i))), (putC g M x (kpS (rsC (bgS cs) (dsO (cs 0) i))))) else .inr ("java/lang/UnsupportedOperationException", (putC g M x (rsC (bgS cs) (dsO (cs 0) i))))) := by
  refine k_meth hlf (by decide) (Nat.le_of_ble_eq_true rfl) fun p e s m below meth c ls hc hr hnx hM hS hl => ?_
  have hc : Cx g p l s m [.ref x, .int i].toArray meth c cX5_stake 2 RX5 := hc
  have hx := hc.1
  have hb := hc.2.1
  have hl : lv_has ls 2 [(0, .ref x), (1, .int i)] := hl
  refine lv_aload_n hx hb dX5_stake_0 rfl (lv_at hl 0 rfl) ?_
  refine k_V0 hc [] cw_X5_63 rfl dX5_stake_1 (c_X5_begin l hlf g _ x cs hW) hW.o hM hS hl.1 rfl rfl ⟨Nat.le_of_ble_eq_true rfl, Nat.le_of_ble_eq_true rfl⟩ ⟨Nat.le_of_ble_eq_true rfl, Nat.le_of_ble_eq_true rfl⟩ (Nat.le_of_ble_eq_true rfl) (fun H locs hM hS => ?_)
  have hW := ClsAt.put (g := g) (M := M) (x := x) (cs := (bgS cs))
  refine lv_aload_n hx hb dX5_stake_4 rfl (lv_at hl 0 rfl) ?_
  refine lv_aload_n hx hb dX5_stake_5 rfl (lv_at hl 0 rfl) ?_
  refine lv_iload_n hx hb dX5_stake_6 rfl (lv_at hl 1 rfl) ?_
  refine k_V1 hc [.int i] cw_X5_66 rfl dX5_stake_7 (c_X5_driveStake l hlf g _ x (bgS cs) i hW) hW.o hM hS hl.1 rfl rfl ⟨Nat.le_of_ble_eq_true rfl, Nat.le_of_ble_eq_true rfl⟩ ⟨Nat.le_of_ble_eq_true rfl, Nat.le_of_ble_eq_true rfl⟩ (Nat.le_of_ble_eq_true rfl) (fun H locs hM hS => ?_)
  have hM := hR.eq hM putC_putC
  have hW := ClsAt.put (g := g) (M := M) (x := x) (cs := (rsC (bgS cs) (dsO ((bgS cs) 0) i)))
  by_cases q_10_0 : ¬ (rvC (dsO ((bgS cs) 0) i)) = -1
  rotate_left 1
  · skip
    have hK := c_X5_settle l hlf g _ x (rsC (bgS cs) (dsO ((bgS cs) 0) i)) (rvC (dsO ((bgS cs) 0) i)) hW (nxOk_of hn bg_6)
    rw [if_neg q_10_0] at hK
    refine k_VX hc [.int (rvC (dsO ((bgS cs) 0) i))] cw_X5_70 rfl dX5_stake_10 hK hW.o hM hS hl.1 rfl rfl ⟨Nat.le_of_ble_eq_true rfl, Nat.le_of_ble_eq_true rfl⟩ ⟨Nat.le_of_ble_eq_true rfl, Nat.le_of_ble_eq_true rfl⟩ (Nat.le_of_ble_eq_true rfl) (fun H locs q9 ce hM hS h1 h2 h3 => ?_)
    exact k_out hc hnx hM hS (Nat.le_of_ble_eq_true rfl) (Nat.le_of_ble_eq_true rfl) h1 h2 h3 (by first | exact if_neg q_10_0 | exact if_pos q_10_0)
  have hK := c_X5_settle l hlf g _ x (rsC (bgS cs) (dsO ((bgS cs) 0) i)) (rvC (dsO ((bgS cs) 0) i)) hW (nxOk_of hn bg_6)
  rw [if_pos q_10_0] at hK
  refine k_V1 hc [.int (rvC (dsO ((bgS cs) 0) i))] cw_X5_70 rfl dX5_stake_10 hK hW.o hM hS hl.1 rfl rfl ⟨Nat.le_of_ble_eq_true rfl, Nat.le_of_ble_eq_true rfl⟩ ⟨Nat.le_of_ble_eq_true rfl, Nat.le_of_ble_eq_true rfl⟩ (Nat.le_of_ble_eq_true rfl) (fun H locs hM hS => ?_)
  have hM := hR.eq hM putC_putC
  have hW := ClsAt.put (g := g) (M := M) (x := x) (cs := (kpS (rsC (bgS cs) (dsO ((bgS cs) 0) i))))
  exact k_iret hc hr dX5_stake_13 hM hS (Nat.le_of_ble_eq_true rfl) (Nat.le_of_ble_eq_true rfl) (by first | exact if_neg q_10_0 | exact if_pos q_10_0)
set_option maxHeartbeats 4000000 in
set_option maxRecDepth 100000 in
theorem c_X5_post (l : Launch) (hlf : l.stackTraces = false) (g : GC) (M : HM) (x : Nat) (cs : CS) (i : Int32) (j : Int32) (hW : ClsAt g M x cs) (hn : nxOk cs) : KM g l yX5_post cX5_post 3 (some .int) 7 1 6 [.ref x, .int i, .int j] M (if ¬ rvC (spO (cs 0) i j) = -1 then .inl (some (.int (rvC (spO (cs 0) i j))), (putC g M x (kpS (rsC (bgS cs) (spO (cs 0) i j))))) else .inr ("java/lang/UnsupportedOperationException", (putC g M x (rsC (bgS cs) (spO (cs 0) i j))))) := by
  refine k_meth hlf (by decide) (Nat.le_of_ble_eq_true rfl) fun p e s m below meth c ls hc hr hnx hM hS hl => ?_
  have hc : Cx g p l s m [.ref x, .int i, .int j].toArray meth c cX5_post 3 RX5 := hc
  have hx := hc.1
  have hb := hc.2.1
  have hl : lv_has ls 3 [(0, .ref x), (1, .int i), (2, .int j)] := hl
  refine lv_aload_n hx hb dX5_post_0 rfl (lv_at hl 0 rfl) ?_
  refine k_V0 hc [] cw_X5_63 rfl dX5_post_1 (c_X5_begin l hlf g _ x cs hW) hW.o hM hS hl.1 rfl rfl ⟨Nat.le_of_ble_eq_true rfl, Nat.le_of_ble_eq_true rfl⟩ ⟨Nat.le_of_ble_eq_true rfl, Nat.le_of_ble_eq_true rfl⟩ (Nat.le_of_ble_eq_true rfl) (fun H locs hM hS => ?_)
  have hW := ClsAt.put (g := g) (M := M) (x := x) (cs := (bgS cs))
  refine lv_aload_n hx hb dX5_post_4 rfl (lv_at hl 0 rfl) ?_
  refine lv_aload_n hx hb dX5_post_5 rfl (lv_at hl 0 rfl) ?_
  refine lv_iload_n hx hb dX5_post_6 rfl (lv_at hl 1 rfl) ?_
  refine lv_iload_n hx hb dX5_post_7 rfl (lv_at hl 2 rfl) ?_
  refine k_V1 hc [.int i, .int j] cw_X5_73 rfl dX5_post_8 (c_X5_setUpPost l hlf g _ x (bgS cs) i j hW) hW.o hM hS hl.1 rfl rfl ⟨Nat.le_of_ble_eq_true rfl, Nat.le_of_ble_eq_true rfl⟩ ⟨Nat.le_of_ble_eq_true rfl, Nat.le_of_ble_eq_true rfl⟩ (Nat.le_of_ble_eq_true rfl) (fun H locs hM hS => ?_)
  have hM := hR.eq hM putC_putC
  have hW := ClsAt.put (g := g) (M := M) (x := x) (cs := (rsC (bgS cs) (spO ((bgS cs) 0) i j)))
  by_cases q_11_0 : ¬ (rvC (spO ((bgS cs) 0) i j)) = -1
  rotate_left 1
  · skip
    have hK := c_X5_settle l hlf g _ x (rsC (bgS cs) (spO ((bgS cs) 0) i j)) (rvC (spO ((bgS cs) 0) i j)) hW (nxOk_of hn bg_6)
    rw [if_neg q_11_0] at hK
    refine k_VX hc [.int (rvC (spO ((bgS cs) 0) i j))] cw_X5_70 rfl dX5_post_11 hK hW.o hM hS hl.1 rfl rfl ⟨Nat.le_of_ble_eq_true rfl, Nat.le_of_ble_eq_true rfl⟩ ⟨Nat.le_of_ble_eq_true rfl, Nat.le_of_ble_eq_true rfl⟩ (Nat.le_of_ble_eq_true rfl) (fun H locs q9 ce hM hS h1 h2 h3 => ?_)
    exact k_out hc hnx hM hS (Nat.le_of_ble_eq_true rfl) (Nat.le_of_ble_eq_true rfl) h1 h2 h3 (by first | exact if_neg q_11_0 | exact if_pos q_11_0)
  have hK := c_X5_settle l hlf g _ x (rsC (bgS cs) (spO ((bgS cs) 0) i j)) (rvC (spO ((bgS cs) 0) i j)) hW (nxOk_of hn bg_6)
  rw [if_pos q_11_0] at hK
  refine k_V1 hc [.int (rvC (spO ((bgS cs) 0) i j))] cw_X5_70 rfl dX5_post_11 hK hW.o hM hS hl.1 rfl rfl ⟨Nat.le_of_ble_eq_true rfl, Nat.le_of_ble_eq_true rfl⟩ ⟨Nat.le_of_ble_eq_true rfl, Nat.le_of_ble_eq_true rfl⟩ (Nat.le_of_ble_eq_true rfl) (fun H locs hM hS => ?_)
  have hM := hR.eq hM putC_putC
  have hW := ClsAt.put (g := g) (M := M) (x := x) (cs := (kpS (rsC (bgS cs) (spO ((bgS cs) 0) i j))))
  exact k_iret hc hr dX5_post_14 hM hS (Nat.le_of_ble_eq_true rfl) (Nat.le_of_ble_eq_true rfl) (by first | exact if_neg q_11_0 | exact if_pos q_11_0)
set_option maxHeartbeats 4000000 in
set_option maxRecDepth 100000 in
theorem c_X5_sheet (l : Launch) (hlf : l.stackTraces = false) (g : GC) (M : HM) (x : Nat) (cs : CS) (hW : ClsAt g M x cs) (hn : nxOk cs) : KM g l yX5_sheet cX5_sheet 1 (some .int) 7 1 6 [.ref x] M (if ¬ rvC (asO (cs 0)) = -1 then .inl (some (.int (rvC (asO (cs 0)))), (putC g M x (kpS (rsC (bgS cs) (asO (cs 0)))))) else .inr ("java/lang/UnsupportedOperationException", (putC g M x (rsC (bgS cs) (asO (cs 0)))))) := by
  refine k_meth hlf (by decide) (Nat.le_of_ble_eq_true rfl) fun p e s m below meth c ls hc hr hnx hM hS hl => ?_
  have hc : Cx g p l s m [.ref x].toArray meth c cX5_sheet 1 RX5 := hc
  have hx := hc.1
  have hb := hc.2.1
  have hl : lv_has ls 1 [(0, .ref x)] := hl
  refine lv_aload_n hx hb dX5_sheet_0 rfl (lv_at hl 0 rfl) ?_
  refine k_V0 hc [] cw_X5_63 rfl dX5_sheet_1 (c_X5_begin l hlf g _ x cs hW) hW.o hM hS hl.1 rfl rfl ⟨Nat.le_of_ble_eq_true rfl, Nat.le_of_ble_eq_true rfl⟩ ⟨Nat.le_of_ble_eq_true rfl, Nat.le_of_ble_eq_true rfl⟩ (Nat.le_of_ble_eq_true rfl) (fun H locs hM hS => ?_)
  have hW := ClsAt.put (g := g) (M := M) (x := x) (cs := (bgS cs))
  refine lv_aload_n hx hb dX5_sheet_4 rfl (lv_at hl 0 rfl) ?_
  refine lv_aload_n hx hb dX5_sheet_5 rfl (lv_at hl 0 rfl) ?_
  refine k_V1 hc [] cw_X5_77 rfl dX5_sheet_6 (c_X5_addSheet l hlf g _ x (bgS cs) hW) hW.o hM hS hl.1 rfl rfl ⟨Nat.le_of_ble_eq_true rfl, Nat.le_of_ble_eq_true rfl⟩ ⟨Nat.le_of_ble_eq_true rfl, Nat.le_of_ble_eq_true rfl⟩ (Nat.le_of_ble_eq_true rfl) (fun H locs hM hS => ?_)
  have hM := hR.eq hM putC_putC
  have hW := ClsAt.put (g := g) (M := M) (x := x) (cs := (rsC (bgS cs) (asO ((bgS cs) 0))))
  by_cases q_9_0 : ¬ (rvC (asO ((bgS cs) 0))) = -1
  rotate_left 1
  · skip
    have hK := c_X5_settle l hlf g _ x (rsC (bgS cs) (asO ((bgS cs) 0))) (rvC (asO ((bgS cs) 0))) hW (nxOk_of hn bg_6)
    rw [if_neg q_9_0] at hK
    refine k_VX hc [.int (rvC (asO ((bgS cs) 0)))] cw_X5_70 rfl dX5_sheet_9 hK hW.o hM hS hl.1 rfl rfl ⟨Nat.le_of_ble_eq_true rfl, Nat.le_of_ble_eq_true rfl⟩ ⟨Nat.le_of_ble_eq_true rfl, Nat.le_of_ble_eq_true rfl⟩ (Nat.le_of_ble_eq_true rfl) (fun H locs q9 ce hM hS h1 h2 h3 => ?_)
    exact k_out hc hnx hM hS (Nat.le_of_ble_eq_true rfl) (Nat.le_of_ble_eq_true rfl) h1 h2 h3 (by first | exact if_neg q_9_0 | exact if_pos q_9_0)
  have hK := c_X5_settle l hlf g _ x (rsC (bgS cs) (asO ((bgS cs) 0))) (rvC (asO ((bgS cs) 0))) hW (nxOk_of hn bg_6)
  rw [if_pos q_9_0] at hK
  refine k_V1 hc [.int (rvC (asO ((bgS cs) 0)))] cw_X5_70 rfl dX5_sheet_9 hK hW.o hM hS hl.1 rfl rfl ⟨Nat.le_of_ble_eq_true rfl, Nat.le_of_ble_eq_true rfl⟩ ⟨Nat.le_of_ble_eq_true rfl, Nat.le_of_ble_eq_true rfl⟩ (Nat.le_of_ble_eq_true rfl) (fun H locs hM hS => ?_)
  have hM := hR.eq hM putC_putC
  have hW := ClsAt.put (g := g) (M := M) (x := x) (cs := (kpS (rsC (bgS cs) (asO ((bgS cs) 0)))))
  exact k_iret hc hr dX5_sheet_12 hM hS (Nat.le_of_ble_eq_true rfl) (Nat.le_of_ble_eq_true rfl) (by first | exact if_neg q_9_0 | exact if_pos q_9_0)
set_option maxHeartbeats 4000000 in
set_option maxRecDepth 100000 in
theorem c_X5_heat (l : Launch) (hlf : l.stackTraces = false) (g : GC) (M : HM) (x : Nat) (cs : CS) (i : Int32) (hW : ClsAt g M x cs) (hn : nxOk cs) : KM g l yX5_heat cX5_heat 2 (some .int) 7 1 6 [.ref x, .int i] M (if ¬ rvC (shO (cs 0) i) = -1 then .inl (some (.int (rvC (shO (cs 0) i))), (putC g M x (kpS (rsC (bgS cs) (shO (cs 0) i))))) else .inr ("java/lang/UnsupportedOperationException", (putC g M x (rsC (bgS cs) (shO (cs 0) i))))) := by
  refine k_meth hlf (by decide) (Nat.le_of_ble_eq_true rfl) fun p e s m below meth c ls hc hr hnx hM hS hl => ?_
  have hc : Cx g p l s m [.ref x, .int i].toArray meth c cX5_heat 2 RX5 := hc
  have hx := hc.1
  have hb := hc.2.1
  have hl : lv_has ls 2 [(0, .ref x), (1, .int i)] := hl
  refine lv_aload_n hx hb dX5_heat_0 rfl (lv_at hl 0 rfl) ?_
  refine k_V0 hc [] cw_X5_63 rfl dX5_heat_1 (c_X5_begin l hlf g _ x cs hW) hW.o hM hS hl.1 rfl rfl ⟨Nat.le_of_ble_eq_true rfl, Nat.le_of_ble_eq_true rfl⟩ ⟨Nat.le_of_ble_eq_true rfl, Nat.le_of_ble_eq_true rfl⟩ (Nat.le_of_ble_eq_true rfl) (fun H locs hM hS => ?_)
  have hW := ClsAt.put (g := g) (M := M) (x := x) (cs := (bgS cs))
  refine lv_aload_n hx hb dX5_heat_4 rfl (lv_at hl 0 rfl) ?_
  refine lv_aload_n hx hb dX5_heat_5 rfl (lv_at hl 0 rfl) ?_
  refine lv_iload_n hx hb dX5_heat_6 rfl (lv_at hl 1 rfl) ?_
  refine k_V1 hc [.int i] cw_X5_81 rfl dX5_heat_7 (c_X5_setDayHeat l hlf g _ x (bgS cs) i hW) hW.o hM hS hl.1 rfl rfl ⟨Nat.le_of_ble_eq_true rfl, Nat.le_of_ble_eq_true rfl⟩ ⟨Nat.le_of_ble_eq_true rfl, Nat.le_of_ble_eq_true rfl⟩ (Nat.le_of_ble_eq_true rfl) (fun H locs hM hS => ?_)
  have hM := hR.eq hM putC_putC
  have hW := ClsAt.put (g := g) (M := M) (x := x) (cs := (rsC (bgS cs) (shO ((bgS cs) 0) i)))
  by_cases q_10_0 : ¬ (rvC (shO ((bgS cs) 0) i)) = -1
  rotate_left 1
  · skip
    have hK := c_X5_settle l hlf g _ x (rsC (bgS cs) (shO ((bgS cs) 0) i)) (rvC (shO ((bgS cs) 0) i)) hW (nxOk_of hn bg_6)
    rw [if_neg q_10_0] at hK
    refine k_VX hc [.int (rvC (shO ((bgS cs) 0) i))] cw_X5_70 rfl dX5_heat_10 hK hW.o hM hS hl.1 rfl rfl ⟨Nat.le_of_ble_eq_true rfl, Nat.le_of_ble_eq_true rfl⟩ ⟨Nat.le_of_ble_eq_true rfl, Nat.le_of_ble_eq_true rfl⟩ (Nat.le_of_ble_eq_true rfl) (fun H locs q9 ce hM hS h1 h2 h3 => ?_)
    exact k_out hc hnx hM hS (Nat.le_of_ble_eq_true rfl) (Nat.le_of_ble_eq_true rfl) h1 h2 h3 (by first | exact if_neg q_10_0 | exact if_pos q_10_0)
  have hK := c_X5_settle l hlf g _ x (rsC (bgS cs) (shO ((bgS cs) 0) i)) (rvC (shO ((bgS cs) 0) i)) hW (nxOk_of hn bg_6)
  rw [if_pos q_10_0] at hK
  refine k_V1 hc [.int (rvC (shO ((bgS cs) 0) i))] cw_X5_70 rfl dX5_heat_10 hK hW.o hM hS hl.1 rfl rfl ⟨Nat.le_of_ble_eq_true rfl, Nat.le_of_ble_eq_true rfl⟩ ⟨Nat.le_of_ble_eq_true rfl, Nat.le_of_ble_eq_true rfl⟩ (Nat.le_of_ble_eq_true rfl) (fun H locs hM hS => ?_)
  have hM := hR.eq hM putC_putC
  have hW := ClsAt.put (g := g) (M := M) (x := x) (cs := (kpS (rsC (bgS cs) (shO ((bgS cs) 0) i))))
  exact k_iret hc hr dX5_heat_13 hM hS (Nat.le_of_ble_eq_true rfl) (Nat.le_of_ble_eq_true rfl) (by first | exact if_neg q_10_0 | exact if_pos q_10_0)
set_option maxHeartbeats 4000000 in
set_option maxRecDepth 100000 in
theorem c_X5_sight (l : Launch) (hlf : l.stackTraces = false) (g : GC) (M : HM) (x : Nat) (cs : CS) (i : Int32) (j : Int32) (o : Int32) (hW : ClsAt g M x cs) (hn : nxOk cs) : KM g l yX5_sight cX5_sight 4 (some .int) 9 1 6 [.ref x, .int i, .int j, .int o] M (if ¬ rvC (sgO (cs 0) i j o) = -1 then .inl (some (.int (rvC (sgO (cs 0) i j o))), (putC g M x (kpS (rsC (bgS cs) (sgO (cs 0) i j o))))) else .inr ("java/lang/UnsupportedOperationException", (putC g M x (rsC (bgS cs) (sgO (cs 0) i j o))))) := by
  refine k_meth hlf (by decide) (Nat.le_of_ble_eq_true rfl) fun p e s m below meth c ls hc hr hnx hM hS hl => ?_
  have hc : Cx g p l s m [.ref x, .int i, .int j, .int o].toArray meth c cX5_sight 4 RX5 := hc
  have hx := hc.1
  have hb := hc.2.1
  have hl : lv_has ls 4 [(0, .ref x), (1, .int i), (2, .int j), (3, .int o)] := hl
  refine lv_aload_n hx hb dX5_sight_0 rfl (lv_at hl 0 rfl) ?_
  refine k_V0 hc [] cw_X5_63 rfl dX5_sight_1 (c_X5_begin l hlf g _ x cs hW) hW.o hM hS hl.1 rfl rfl ⟨Nat.le_of_ble_eq_true rfl, Nat.le_of_ble_eq_true rfl⟩ ⟨Nat.le_of_ble_eq_true rfl, Nat.le_of_ble_eq_true rfl⟩ (Nat.le_of_ble_eq_true rfl) (fun H locs hM hS => ?_)
  have hW := ClsAt.put (g := g) (M := M) (x := x) (cs := (bgS cs))
  refine lv_aload_n hx hb dX5_sight_4 rfl (lv_at hl 0 rfl) ?_
  refine lv_aload_n hx hb dX5_sight_5 rfl (lv_at hl 0 rfl) ?_
  refine lv_iload_n hx hb dX5_sight_6 rfl (lv_at hl 1 rfl) ?_
  refine lv_iload_n hx hb dX5_sight_7 rfl (lv_at hl 2 rfl) ?_
  refine lv_iload_n hx hb dX5_sight_8 rfl (lv_at hl 3 rfl) ?_
  refine k_V1 hc [.int i, .int j, .int o] cw_X5_84 rfl dX5_sight_9 (c_X5_drawSighted l hlf g _ x (bgS cs) i j o hW) hW.o hM hS hl.1 rfl rfl ⟨Nat.le_of_ble_eq_true rfl, Nat.le_of_ble_eq_true rfl⟩ ⟨Nat.le_of_ble_eq_true rfl, Nat.le_of_ble_eq_true rfl⟩ (Nat.le_of_ble_eq_true rfl) (fun H locs hM hS => ?_)
  have hM := hR.eq hM putC_putC
  have hW := ClsAt.put (g := g) (M := M) (x := x) (cs := (rsC (bgS cs) (sgO ((bgS cs) 0) i j o)))
  by_cases q_12_0 : ¬ (rvC (sgO ((bgS cs) 0) i j o)) = -1
  rotate_left 1
  · skip
    have hK := c_X5_settle l hlf g _ x (rsC (bgS cs) (sgO ((bgS cs) 0) i j o)) (rvC (sgO ((bgS cs) 0) i j o)) hW (nxOk_of hn bg_6)
    rw [if_neg q_12_0] at hK
    refine k_VX hc [.int (rvC (sgO ((bgS cs) 0) i j o))] cw_X5_70 rfl dX5_sight_12 hK hW.o hM hS hl.1 rfl rfl ⟨Nat.le_of_ble_eq_true rfl, Nat.le_of_ble_eq_true rfl⟩ ⟨Nat.le_of_ble_eq_true rfl, Nat.le_of_ble_eq_true rfl⟩ (Nat.le_of_ble_eq_true rfl) (fun H locs q9 ce hM hS h1 h2 h3 => ?_)
    exact k_out hc hnx hM hS (Nat.le_of_ble_eq_true rfl) (Nat.le_of_ble_eq_true rfl) h1 h2 h3 (by first | exact if_neg q_12_0 | exact if_pos q_12_0)
  have hK := c_X5_settle l hlf g _ x (rsC (bgS cs) (sgO ((bgS cs) 0) i j o)) (rvC (sgO ((bgS cs) 0) i j o)) hW (nxOk_of hn bg_6)
  rw [if_pos q_12_0] at hK
  refine k_V1 hc [.int (rvC (sgO ((bgS cs) 0) i j o))] cw_X5_70 rfl dX5_sight_12 hK hW.o hM hS hl.1 rfl rfl ⟨Nat.le_of_ble_eq_true rfl, Nat.le_of_ble_eq_true rfl⟩ ⟨Nat.le_of_ble_eq_true rfl, Nat.le_of_ble_eq_true rfl⟩ (Nat.le_of_ble_eq_true rfl) (fun H locs hM hS => ?_)
  have hM := hR.eq hM putC_putC
  have hW := ClsAt.put (g := g) (M := M) (x := x) (cs := (kpS (rsC (bgS cs) (sgO ((bgS cs) 0) i j o))))
  exact k_iret hc hr dX5_sight_15 hM hS (Nat.le_of_ble_eq_true rfl) (Nat.le_of_ble_eq_true rfl) (by first | exact if_neg q_12_0 | exact if_pos q_12_0)
set_option maxHeartbeats 4000000 in
set_option maxRecDepth 100000 in
theorem c_X5_erase (l : Launch) (hlf : l.stackTraces = false) (g : GC) (M : HM) (x : Nat) (cs : CS) (i : Int32) (j : Int32) (hW : ClsAt g M x cs) (hn : nxOk cs) : KM g l yX5_erase cX5_erase 3 (some .int) 7 1 6 [.ref x, .int i, .int j] M (if ¬ rvC (erO (cs 0) i j) = -1 then .inl (some (.int (rvC (erO (cs 0) i j))), (putC g M x (kpS (rsC (bgS cs) (erO (cs 0) i j))))) else .inr ("java/lang/UnsupportedOperationException", (putC g M x (rsC (bgS cs) (erO (cs 0) i j))))) := by
  refine k_meth hlf (by decide) (Nat.le_of_ble_eq_true rfl) fun p e s m below meth c ls hc hr hnx hM hS hl => ?_
  have hc : Cx g p l s m [.ref x, .int i, .int j].toArray meth c cX5_erase 3 RX5 := hc
  have hx := hc.1
  have hb := hc.2.1
  have hl : lv_has ls 3 [(0, .ref x), (1, .int i), (2, .int j)] := hl
  refine lv_aload_n hx hb dX5_erase_0 rfl (lv_at hl 0 rfl) ?_
  refine k_V0 hc [] cw_X5_63 rfl dX5_erase_1 (c_X5_begin l hlf g _ x cs hW) hW.o hM hS hl.1 rfl rfl ⟨Nat.le_of_ble_eq_true rfl, Nat.le_of_ble_eq_true rfl⟩ ⟨Nat.le_of_ble_eq_true rfl, Nat.le_of_ble_eq_true rfl⟩ (Nat.le_of_ble_eq_true rfl) (fun H locs hM hS => ?_)
  have hW := ClsAt.put (g := g) (M := M) (x := x) (cs := (bgS cs))
  refine lv_aload_n hx hb dX5_erase_4 rfl (lv_at hl 0 rfl) ?_
  refine lv_aload_n hx hb dX5_erase_5 rfl (lv_at hl 0 rfl) ?_
  refine lv_iload_n hx hb dX5_erase_6 rfl (lv_at hl 1 rfl) ?_
  refine lv_iload_n hx hb dX5_erase_7 rfl (lv_at hl 2 rfl) ?_
  refine k_V1 hc [.int i, .int j] cw_X5_88 rfl dX5_erase_8 (c_X5_eraseDrawn l hlf g _ x (bgS cs) i j hW) hW.o hM hS hl.1 rfl rfl ⟨Nat.le_of_ble_eq_true rfl, Nat.le_of_ble_eq_true rfl⟩ ⟨Nat.le_of_ble_eq_true rfl, Nat.le_of_ble_eq_true rfl⟩ (Nat.le_of_ble_eq_true rfl) (fun H locs hM hS => ?_)
  have hM := hR.eq hM putC_putC
  have hW := ClsAt.put (g := g) (M := M) (x := x) (cs := (rsC (bgS cs) (erO ((bgS cs) 0) i j)))
  by_cases q_11_0 : ¬ (rvC (erO ((bgS cs) 0) i j)) = -1
  rotate_left 1
  · skip
    have hK := c_X5_settle l hlf g _ x (rsC (bgS cs) (erO ((bgS cs) 0) i j)) (rvC (erO ((bgS cs) 0) i j)) hW (nxOk_of hn bg_6)
    rw [if_neg q_11_0] at hK
    refine k_VX hc [.int (rvC (erO ((bgS cs) 0) i j))] cw_X5_70 rfl dX5_erase_11 hK hW.o hM hS hl.1 rfl rfl ⟨Nat.le_of_ble_eq_true rfl, Nat.le_of_ble_eq_true rfl⟩ ⟨Nat.le_of_ble_eq_true rfl, Nat.le_of_ble_eq_true rfl⟩ (Nat.le_of_ble_eq_true rfl) (fun H locs q9 ce hM hS h1 h2 h3 => ?_)
    exact k_out hc hnx hM hS (Nat.le_of_ble_eq_true rfl) (Nat.le_of_ble_eq_true rfl) h1 h2 h3 (by first | exact if_neg q_11_0 | exact if_pos q_11_0)
  have hK := c_X5_settle l hlf g _ x (rsC (bgS cs) (erO ((bgS cs) 0) i j)) (rvC (erO ((bgS cs) 0) i j)) hW (nxOk_of hn bg_6)
  rw [if_pos q_11_0] at hK
  refine k_V1 hc [.int (rvC (erO ((bgS cs) 0) i j))] cw_X5_70 rfl dX5_erase_11 hK hW.o hM hS hl.1 rfl rfl ⟨Nat.le_of_ble_eq_true rfl, Nat.le_of_ble_eq_true rfl⟩ ⟨Nat.le_of_ble_eq_true rfl, Nat.le_of_ble_eq_true rfl⟩ (Nat.le_of_ble_eq_true rfl) (fun H locs hM hS => ?_)
  have hM := hR.eq hM putC_putC
  have hW := ClsAt.put (g := g) (M := M) (x := x) (cs := (kpS (rsC (bgS cs) (erO ((bgS cs) 0) i j))))
  exact k_iret hc hr dX5_erase_14 hM hS (Nat.le_of_ble_eq_true rfl) (Nat.le_of_ble_eq_true rfl) (by first | exact if_neg q_11_0 | exact if_pos q_11_0)
set_option maxHeartbeats 4000000 in
set_option maxRecDepth 100000 in
theorem c_X5_camel (l : Launch) (hlf : l.stackTraces = false) (g : GC) (M : HM) (x : Nat) (cs : CS) (i : Int32) (hW : ClsAt g M x cs) (hn : nxOk cs) : KM g l yX5_camel cX5_camel 2 (some .int) 7 1 6 [.ref x, .int i] M (if ¬ rvC (caO (cs 0) i) = -1 then .inl (some (.int (rvC (caO (cs 0) i))), (putC g M x (kpS (rsC (bgS cs) (caO (cs 0) i))))) else .inr ("java/lang/UnsupportedOperationException", (putC g M x (rsC (bgS cs) (caO (cs 0) i))))) := by
  refine k_meth hlf (by decide) (Nat.le_of_ble_eq_true rfl) fun p e s m below meth c ls hc hr hnx hM hS hl => ?_
  have hc : Cx g p l s m [.ref x, .int i].toArray meth c cX5_camel 2 RX5 := hc
  have hx := hc.1
  have hb := hc.2.1
  have hl : lv_has ls 2 [(0, .ref x), (1, .int i)] := hl
  refine lv_aload_n hx hb dX5_camel_0 rfl (lv_at hl 0 rfl) ?_
  refine k_V0 hc [] cw_X5_63 rfl dX5_camel_1 (c_X5_begin l hlf g _ x cs hW) hW.o hM hS hl.1 rfl rfl ⟨Nat.le_of_ble_eq_true rfl, Nat.le_of_ble_eq_true rfl⟩ ⟨Nat.le_of_ble_eq_true rfl, Nat.le_of_ble_eq_true rfl⟩ (Nat.le_of_ble_eq_true rfl) (fun H locs hM hS => ?_)
  have hW := ClsAt.put (g := g) (M := M) (x := x) (cs := (bgS cs))
  refine lv_aload_n hx hb dX5_camel_4 rfl (lv_at hl 0 rfl) ?_
  refine lv_aload_n hx hb dX5_camel_5 rfl (lv_at hl 0 rfl) ?_
  refine lv_iload_n hx hb dX5_camel_6 rfl (lv_at hl 1 rfl) ?_
  refine k_V1 hc [.int i] cw_X5_91 rfl dX5_camel_7 (c_X5_bringCamel l hlf g _ x (bgS cs) i hW) hW.o hM hS hl.1 rfl rfl ⟨Nat.le_of_ble_eq_true rfl, Nat.le_of_ble_eq_true rfl⟩ ⟨Nat.le_of_ble_eq_true rfl, Nat.le_of_ble_eq_true rfl⟩ (Nat.le_of_ble_eq_true rfl) (fun H locs hM hS => ?_)
  have hM := hR.eq hM putC_putC
  have hW := ClsAt.put (g := g) (M := M) (x := x) (cs := (rsC (bgS cs) (caO ((bgS cs) 0) i)))
  by_cases q_10_0 : ¬ (rvC (caO ((bgS cs) 0) i)) = -1
  rotate_left 1
  · skip
    have hK := c_X5_settle l hlf g _ x (rsC (bgS cs) (caO ((bgS cs) 0) i)) (rvC (caO ((bgS cs) 0) i)) hW (nxOk_of hn bg_6)
    rw [if_neg q_10_0] at hK
    refine k_VX hc [.int (rvC (caO ((bgS cs) 0) i))] cw_X5_70 rfl dX5_camel_10 hK hW.o hM hS hl.1 rfl rfl ⟨Nat.le_of_ble_eq_true rfl, Nat.le_of_ble_eq_true rfl⟩ ⟨Nat.le_of_ble_eq_true rfl, Nat.le_of_ble_eq_true rfl⟩ (Nat.le_of_ble_eq_true rfl) (fun H locs q9 ce hM hS h1 h2 h3 => ?_)
    exact k_out hc hnx hM hS (Nat.le_of_ble_eq_true rfl) (Nat.le_of_ble_eq_true rfl) h1 h2 h3 (by first | exact if_neg q_10_0 | exact if_pos q_10_0)
  have hK := c_X5_settle l hlf g _ x (rsC (bgS cs) (caO ((bgS cs) 0) i)) (rvC (caO ((bgS cs) 0) i)) hW (nxOk_of hn bg_6)
  rw [if_pos q_10_0] at hK
  refine k_V1 hc [.int (rvC (caO ((bgS cs) 0) i))] cw_X5_70 rfl dX5_camel_10 hK hW.o hM hS hl.1 rfl rfl ⟨Nat.le_of_ble_eq_true rfl, Nat.le_of_ble_eq_true rfl⟩ ⟨Nat.le_of_ble_eq_true rfl, Nat.le_of_ble_eq_true rfl⟩ (Nat.le_of_ble_eq_true rfl) (fun H locs hM hS => ?_)
  have hM := hR.eq hM putC_putC
  have hW := ClsAt.put (g := g) (M := M) (x := x) (cs := (kpS (rsC (bgS cs) (caO ((bgS cs) 0) i))))
  exact k_iret hc hr dX5_camel_13 hM hS (Nat.le_of_ble_eq_true rfl) (Nat.le_of_ble_eq_true rfl) (by first | exact if_neg q_10_0 | exact if_pos q_10_0)
set_option maxHeartbeats 4000000 in
set_option maxRecDepth 100000 in
theorem c_X5_bell (l : Launch) (hlf : l.stackTraces = false) (g : GC) (M : HM) (x : Nat) (cs : CS) (i : Int32) (hW : ClsAt g M x cs) (hn : nxOk cs) : KM g l yX5_bell cX5_bell 2 (some .int) 7 1 6 [.ref x, .int i] M (if ¬ rvC (rbO (cs 0) i) = -1 then .inl (some (.int (rvC (rbO (cs 0) i))), (putC g M x (kpS (rsC (bgS cs) (rbO (cs 0) i))))) else .inr ("java/lang/UnsupportedOperationException", (putC g M x (rsC (bgS cs) (rbO (cs 0) i))))) := by
  refine k_meth hlf (by decide) (Nat.le_of_ble_eq_true rfl) fun p e s m below meth c ls hc hr hnx hM hS hl => ?_
  have hc : Cx g p l s m [.ref x, .int i].toArray meth c cX5_bell 2 RX5 := hc
  have hx := hc.1
  have hb := hc.2.1
  have hl : lv_has ls 2 [(0, .ref x), (1, .int i)] := hl
  refine lv_aload_n hx hb dX5_bell_0 rfl (lv_at hl 0 rfl) ?_
  refine k_V0 hc [] cw_X5_63 rfl dX5_bell_1 (c_X5_begin l hlf g _ x cs hW) hW.o hM hS hl.1 rfl rfl ⟨Nat.le_of_ble_eq_true rfl, Nat.le_of_ble_eq_true rfl⟩ ⟨Nat.le_of_ble_eq_true rfl, Nat.le_of_ble_eq_true rfl⟩ (Nat.le_of_ble_eq_true rfl) (fun H locs hM hS => ?_)
  have hW := ClsAt.put (g := g) (M := M) (x := x) (cs := (bgS cs))
  refine lv_aload_n hx hb dX5_bell_4 rfl (lv_at hl 0 rfl) ?_
  refine lv_aload_n hx hb dX5_bell_5 rfl (lv_at hl 0 rfl) ?_
  refine lv_iload_n hx hb dX5_bell_6 rfl (lv_at hl 1 rfl) ?_
  refine k_V1 hc [.int i] cw_X5_94 rfl dX5_bell_7 (c_X5_ringBell l hlf g _ x (bgS cs) i hW) hW.o hM hS hl.1 rfl rfl ⟨Nat.le_of_ble_eq_true rfl, Nat.le_of_ble_eq_true rfl⟩ ⟨Nat.le_of_ble_eq_true rfl, Nat.le_of_ble_eq_true rfl⟩ (Nat.le_of_ble_eq_true rfl) (fun H locs hM hS => ?_)
  have hM := hR.eq hM putC_putC
  have hW := ClsAt.put (g := g) (M := M) (x := x) (cs := (rsC (bgS cs) (rbO ((bgS cs) 0) i)))
  by_cases q_10_0 : ¬ (rvC (rbO ((bgS cs) 0) i)) = -1
  rotate_left 1
  · skip
    have hK := c_X5_settle l hlf g _ x (rsC (bgS cs) (rbO ((bgS cs) 0) i)) (rvC (rbO ((bgS cs) 0) i)) hW (nxOk_of hn bg_6)
    rw [if_neg q_10_0] at hK
    refine k_VX hc [.int (rvC (rbO ((bgS cs) 0) i))] cw_X5_70 rfl dX5_bell_10 hK hW.o hM hS hl.1 rfl rfl ⟨Nat.le_of_ble_eq_true rfl, Nat.le_of_ble_eq_true rfl⟩ ⟨Nat.le_of_ble_eq_true rfl, Nat.le_of_ble_eq_true rfl⟩ (Nat.le_of_ble_eq_true rfl) (fun H locs q9 ce hM hS h1 h2 h3 => ?_)
    exact k_out hc hnx hM hS (Nat.le_of_ble_eq_true rfl) (Nat.le_of_ble_eq_true rfl) h1 h2 h3 (by first | exact if_neg q_10_0 | exact if_pos q_10_0)
  have hK := c_X5_settle l hlf g _ x (rsC (bgS cs) (rbO ((bgS cs) 0) i)) (rvC (rbO ((bgS cs) 0) i)) hW (nxOk_of hn bg_6)
  rw [if_pos q_10_0] at hK
  refine k_V1 hc [.int (rvC (rbO ((bgS cs) 0) i))] cw_X5_70 rfl dX5_bell_10 hK hW.o hM hS hl.1 rfl rfl ⟨Nat.le_of_ble_eq_true rfl, Nat.le_of_ble_eq_true rfl⟩ ⟨Nat.le_of_ble_eq_true rfl, Nat.le_of_ble_eq_true rfl⟩ (Nat.le_of_ble_eq_true rfl) (fun H locs hM hS => ?_)
  have hM := hR.eq hM putC_putC
  have hW := ClsAt.put (g := g) (M := M) (x := x) (cs := (kpS (rsC (bgS cs) (rbO ((bgS cs) 0) i))))
  exact k_iret hc hr dX5_bell_13 hM hS (Nat.le_of_ble_eq_true rfl) (Nat.le_of_ble_eq_true rfl) (by first | exact if_neg q_10_0 | exact if_pos q_10_0)
set_option maxHeartbeats 4000000 in
set_option maxRecDepth 100000 in
theorem c_X5_tie (l : Launch) (hlf : l.stackTraces = false) (g : GC) (M : HM) (x : Nat) (cs : CS) (i : Int32) (hW : ClsAt g M x cs) (hn : nxOk cs) : KM g l yX5_tie cX5_tie 2 (some .int) 7 1 6 [.ref x, .int i] M (if ¬ rvC (tiO (cs 0) i) = -1 then .inl (some (.int (rvC (tiO (cs 0) i))), (putC g M x (kpS (rsC (bgS cs) (tiO (cs 0) i))))) else .inr ("java/lang/UnsupportedOperationException", (putC g M x (rsC (bgS cs) (tiO (cs 0) i))))) := by
  refine k_meth hlf (by decide) (Nat.le_of_ble_eq_true rfl) fun p e s m below meth c ls hc hr hnx hM hS hl => ?_
  have hc : Cx g p l s m [.ref x, .int i].toArray meth c cX5_tie 2 RX5 := hc
  have hx := hc.1
  have hb := hc.2.1
  have hl : lv_has ls 2 [(0, .ref x), (1, .int i)] := hl
  refine lv_aload_n hx hb dX5_tie_0 rfl (lv_at hl 0 rfl) ?_
  refine k_V0 hc [] cw_X5_63 rfl dX5_tie_1 (c_X5_begin l hlf g _ x cs hW) hW.o hM hS hl.1 rfl rfl ⟨Nat.le_of_ble_eq_true rfl, Nat.le_of_ble_eq_true rfl⟩ ⟨Nat.le_of_ble_eq_true rfl, Nat.le_of_ble_eq_true rfl⟩ (Nat.le_of_ble_eq_true rfl) (fun H locs hM hS => ?_)
  have hW := ClsAt.put (g := g) (M := M) (x := x) (cs := (bgS cs))
  refine lv_aload_n hx hb dX5_tie_4 rfl (lv_at hl 0 rfl) ?_
  refine lv_aload_n hx hb dX5_tie_5 rfl (lv_at hl 0 rfl) ?_
  refine lv_iload_n hx hb dX5_tie_6 rfl (lv_at hl 1 rfl) ?_
  refine k_V1 hc [.int i] cw_X5_97 rfl dX5_tie_7 (c_X5_tieCamel l hlf g _ x (bgS cs) i hW) hW.o hM hS hl.1 rfl rfl ⟨Nat.le_of_ble_eq_true rfl, Nat.le_of_ble_eq_true rfl⟩ ⟨Nat.le_of_ble_eq_true rfl, Nat.le_of_ble_eq_true rfl⟩ (Nat.le_of_ble_eq_true rfl) (fun H locs hM hS => ?_)
  have hM := hR.eq hM putC_putC
  have hW := ClsAt.put (g := g) (M := M) (x := x) (cs := (rsC (bgS cs) (tiO ((bgS cs) 0) i)))
  by_cases q_10_0 : ¬ (rvC (tiO ((bgS cs) 0) i)) = -1
  rotate_left 1
  · skip
    have hK := c_X5_settle l hlf g _ x (rsC (bgS cs) (tiO ((bgS cs) 0) i)) (rvC (tiO ((bgS cs) 0) i)) hW (nxOk_of hn bg_6)
    rw [if_neg q_10_0] at hK
    refine k_VX hc [.int (rvC (tiO ((bgS cs) 0) i))] cw_X5_70 rfl dX5_tie_10 hK hW.o hM hS hl.1 rfl rfl ⟨Nat.le_of_ble_eq_true rfl, Nat.le_of_ble_eq_true rfl⟩ ⟨Nat.le_of_ble_eq_true rfl, Nat.le_of_ble_eq_true rfl⟩ (Nat.le_of_ble_eq_true rfl) (fun H locs q9 ce hM hS h1 h2 h3 => ?_)
    exact k_out hc hnx hM hS (Nat.le_of_ble_eq_true rfl) (Nat.le_of_ble_eq_true rfl) h1 h2 h3 (by first | exact if_neg q_10_0 | exact if_pos q_10_0)
  have hK := c_X5_settle l hlf g _ x (rsC (bgS cs) (tiO ((bgS cs) 0) i)) (rvC (tiO ((bgS cs) 0) i)) hW (nxOk_of hn bg_6)
  rw [if_pos q_10_0] at hK
  refine k_V1 hc [.int (rvC (tiO ((bgS cs) 0) i))] cw_X5_70 rfl dX5_tie_10 hK hW.o hM hS hl.1 rfl rfl ⟨Nat.le_of_ble_eq_true rfl, Nat.le_of_ble_eq_true rfl⟩ ⟨Nat.le_of_ble_eq_true rfl, Nat.le_of_ble_eq_true rfl⟩ (Nat.le_of_ble_eq_true rfl) (fun H locs hM hS => ?_)
  have hM := hR.eq hM putC_putC
  have hW := ClsAt.put (g := g) (M := M) (x := x) (cs := (kpS (rsC (bgS cs) (tiO ((bgS cs) 0) i))))
  exact k_iret hc hr dX5_tie_13 hM hS (Nat.le_of_ble_eq_true rfl) (Nat.le_of_ble_eq_true rfl) (by first | exact if_neg q_10_0 | exact if_pos q_10_0)
set_option maxHeartbeats 4000000 in
set_option maxRecDepth 100000 in
theorem c_X5_loose (l : Launch) (hlf : l.stackTraces = false) (g : GC) (M : HM) (x : Nat) (cs : CS) (i : Int32) (hW : ClsAt g M x cs) (hn : nxOk cs) : KM g l yX5_loose cX5_loose 2 (some .int) 7 1 6 [.ref x, .int i] M (if ¬ rvC (loO (cs 0) i) = -1 then .inl (some (.int (rvC (loO (cs 0) i))), (putC g M x (kpS (rsC (bgS cs) (loO (cs 0) i))))) else .inr ("java/lang/UnsupportedOperationException", (putC g M x (rsC (bgS cs) (loO (cs 0) i))))) := by
  refine k_meth hlf (by decide) (Nat.le_of_ble_eq_true rfl) fun p e s m below meth c ls hc hr hnx hM hS hl => ?_
  have hc : Cx g p l s m [.ref x, .int i].toArray meth c cX5_loose 2 RX5 := hc
  have hx := hc.1
  have hb := hc.2.1
  have hl : lv_has ls 2 [(0, .ref x), (1, .int i)] := hl
  refine lv_aload_n hx hb dX5_loose_0 rfl (lv_at hl 0 rfl) ?_
  refine k_V0 hc [] cw_X5_63 rfl dX5_loose_1 (c_X5_begin l hlf g _ x cs hW) hW.o hM hS hl.1 rfl rfl ⟨Nat.le_of_ble_eq_true rfl, Nat.le_of_ble_eq_true rfl⟩ ⟨Nat.le_of_ble_eq_true rfl, Nat.le_of_ble_eq_true rfl⟩ (Nat.le_of_ble_eq_true rfl) (fun H locs hM hS => ?_)
  have hW := ClsAt.put (g := g) (M := M) (x := x) (cs := (bgS cs))
  refine lv_aload_n hx hb dX5_loose_4 rfl (lv_at hl 0 rfl) ?_
  refine lv_aload_n hx hb dX5_loose_5 rfl (lv_at hl 0 rfl) ?_
  refine lv_iload_n hx hb dX5_loose_6 rfl (lv_at hl 1 rfl) ?_
  refine k_V1 hc [.int i] cw_X5_100 rfl dX5_loose_7 (c_X5_loosenCamel l hlf g _ x (bgS cs) i hW) hW.o hM hS hl.1 rfl rfl ⟨Nat.le_of_ble_eq_true rfl, Nat.le_of_ble_eq_true rfl⟩ ⟨Nat.le_of_ble_eq_true rfl, Nat.le_of_ble_eq_true rfl⟩ (Nat.le_of_ble_eq_true rfl) (fun H locs hM hS => ?_)
  have hM := hR.eq hM putC_putC
  have hW := ClsAt.put (g := g) (M := M) (x := x) (cs := (rsC (bgS cs) (loO ((bgS cs) 0) i)))
  by_cases q_10_0 : ¬ (rvC (loO ((bgS cs) 0) i)) = -1
  rotate_left 1
  · skip
    have hK := c_X5_settle l hlf g _ x (rsC (bgS cs) (loO ((bgS cs) 0) i)) (rvC (loO ((bgS cs) 0) i)) hW (nxOk_of hn bg_6)
    rw [if_neg q_10_0] at hK
    refine k_VX hc [.int (rvC (loO ((bgS cs) 0) i))] cw_X5_70 rfl dX5_loose_10 hK hW.o hM hS hl.1 rfl rfl ⟨Nat.le_of_ble_eq_true rfl, Nat.le_of_ble_eq_true rfl⟩ ⟨Nat.le_of_ble_eq_true rfl, Nat.le_of_ble_eq_true rfl⟩ (Nat.le_of_ble_eq_true rfl) (fun H locs q9 ce hM hS h1 h2 h3 => ?_)
    exact k_out hc hnx hM hS (Nat.le_of_ble_eq_true rfl) (Nat.le_of_ble_eq_true rfl) h1 h2 h3 (by first | exact if_neg q_10_0 | exact if_pos q_10_0)
  have hK := c_X5_settle l hlf g _ x (rsC (bgS cs) (loO ((bgS cs) 0) i)) (rvC (loO ((bgS cs) 0) i)) hW (nxOk_of hn bg_6)
  rw [if_pos q_10_0] at hK
  refine k_V1 hc [.int (rvC (loO ((bgS cs) 0) i))] cw_X5_70 rfl dX5_loose_10 hK hW.o hM hS hl.1 rfl rfl ⟨Nat.le_of_ble_eq_true rfl, Nat.le_of_ble_eq_true rfl⟩ ⟨Nat.le_of_ble_eq_true rfl, Nat.le_of_ble_eq_true rfl⟩ (Nat.le_of_ble_eq_true rfl) (fun H locs hM hS => ?_)
  have hM := hR.eq hM putC_putC
  have hW := ClsAt.put (g := g) (M := M) (x := x) (cs := (kpS (rsC (bgS cs) (loO ((bgS cs) 0) i))))
  exact k_iret hc hr dX5_loose_13 hM hS (Nat.le_of_ble_eq_true rfl) (Nat.le_of_ble_eq_true rfl) (by first | exact if_neg q_10_0 | exact if_pos q_10_0)
set_option maxHeartbeats 4000000 in
set_option maxRecDepth 100000 in
theorem c_X5_drink (l : Launch) (hlf : l.stackTraces = false) (g : GC) (M : HM) (x : Nat) (cs : CS) (i : Int32) (hW : ClsAt g M x cs) (hn : nxOk cs) : KM g l yX5_drink cX5_drink 2 (some .int) 7 1 6 [.ref x, .int i] M (if ¬ rvC (wcO (cs 0) i) = -1 then .inl (some (.int (rvC (wcO (cs 0) i))), (putC g M x (kpS (rsC (bgS cs) (wcO (cs 0) i))))) else .inr ("java/lang/UnsupportedOperationException", (putC g M x (rsC (bgS cs) (wcO (cs 0) i))))) := by
  refine k_meth hlf (by decide) (Nat.le_of_ble_eq_true rfl) fun p e s m below meth c ls hc hr hnx hM hS hl => ?_
  have hc : Cx g p l s m [.ref x, .int i].toArray meth c cX5_drink 2 RX5 := hc
  have hx := hc.1
  have hb := hc.2.1
  have hl : lv_has ls 2 [(0, .ref x), (1, .int i)] := hl
  refine lv_aload_n hx hb dX5_drink_0 rfl (lv_at hl 0 rfl) ?_
  refine k_V0 hc [] cw_X5_63 rfl dX5_drink_1 (c_X5_begin l hlf g _ x cs hW) hW.o hM hS hl.1 rfl rfl ⟨Nat.le_of_ble_eq_true rfl, Nat.le_of_ble_eq_true rfl⟩ ⟨Nat.le_of_ble_eq_true rfl, Nat.le_of_ble_eq_true rfl⟩ (Nat.le_of_ble_eq_true rfl) (fun H locs hM hS => ?_)
  have hW := ClsAt.put (g := g) (M := M) (x := x) (cs := (bgS cs))
  refine lv_aload_n hx hb dX5_drink_4 rfl (lv_at hl 0 rfl) ?_
  refine lv_aload_n hx hb dX5_drink_5 rfl (lv_at hl 0 rfl) ?_
  refine lv_iload_n hx hb dX5_drink_6 rfl (lv_at hl 1 rfl) ?_
  refine k_V1 hc [.int i] cw_X5_103 rfl dX5_drink_7 (c_X5_waterCamel l hlf g _ x (bgS cs) i hW) hW.o hM hS hl.1 rfl rfl ⟨Nat.le_of_ble_eq_true rfl, Nat.le_of_ble_eq_true rfl⟩ ⟨Nat.le_of_ble_eq_true rfl, Nat.le_of_ble_eq_true rfl⟩ (Nat.le_of_ble_eq_true rfl) (fun H locs hM hS => ?_)
  have hM := hR.eq hM putC_putC
  have hW := ClsAt.put (g := g) (M := M) (x := x) (cs := (rsC (bgS cs) (wcO ((bgS cs) 0) i)))
  by_cases q_10_0 : ¬ (rvC (wcO ((bgS cs) 0) i)) = -1
  rotate_left 1
  · skip
    have hK := c_X5_settle l hlf g _ x (rsC (bgS cs) (wcO ((bgS cs) 0) i)) (rvC (wcO ((bgS cs) 0) i)) hW (nxOk_of hn bg_6)
    rw [if_neg q_10_0] at hK
    refine k_VX hc [.int (rvC (wcO ((bgS cs) 0) i))] cw_X5_70 rfl dX5_drink_10 hK hW.o hM hS hl.1 rfl rfl ⟨Nat.le_of_ble_eq_true rfl, Nat.le_of_ble_eq_true rfl⟩ ⟨Nat.le_of_ble_eq_true rfl, Nat.le_of_ble_eq_true rfl⟩ (Nat.le_of_ble_eq_true rfl) (fun H locs q9 ce hM hS h1 h2 h3 => ?_)
    exact k_out hc hnx hM hS (Nat.le_of_ble_eq_true rfl) (Nat.le_of_ble_eq_true rfl) h1 h2 h3 (by first | exact if_neg q_10_0 | exact if_pos q_10_0)
  have hK := c_X5_settle l hlf g _ x (rsC (bgS cs) (wcO ((bgS cs) 0) i)) (rvC (wcO ((bgS cs) 0) i)) hW (nxOk_of hn bg_6)
  rw [if_pos q_10_0] at hK
  refine k_V1 hc [.int (rvC (wcO ((bgS cs) 0) i))] cw_X5_70 rfl dX5_drink_10 hK hW.o hM hS hl.1 rfl rfl ⟨Nat.le_of_ble_eq_true rfl, Nat.le_of_ble_eq_true rfl⟩ ⟨Nat.le_of_ble_eq_true rfl, Nat.le_of_ble_eq_true rfl⟩ (Nat.le_of_ble_eq_true rfl) (fun H locs hM hS => ?_)
  have hM := hR.eq hM putC_putC
  have hW := ClsAt.put (g := g) (M := M) (x := x) (cs := (kpS (rsC (bgS cs) (wcO ((bgS cs) 0) i))))
  exact k_iret hc hr dX5_drink_13 hM hS (Nat.le_of_ble_eq_true rfl) (Nat.le_of_ble_eq_true rfl) (by first | exact if_neg q_10_0 | exact if_pos q_10_0)
set_option maxHeartbeats 4000000 in
set_option maxRecDepth 100000 in
theorem c_X5_water (l : Launch) (hlf : l.stackTraces = false) (g : GC) (M : HM) (x : Nat) (cs : CS) (i : Int32) (hW : ClsAt g M x cs) (hn : nxOk cs) : KM g l yX5_water cX5_water 2 (some .int) 7 1 6 [.ref x, .int i] M (if ¬ rvC (bwO (cs 0) i) = -1 then .inl (some (.int (rvC (bwO (cs 0) i))), (putC g M x (kpS (rsC (bgS cs) (bwO (cs 0) i))))) else .inr ("java/lang/UnsupportedOperationException", (putC g M x (rsC (bgS cs) (bwO (cs 0) i))))) := by
  refine k_meth hlf (by decide) (Nat.le_of_ble_eq_true rfl) fun p e s m below meth c ls hc hr hnx hM hS hl => ?_
  have hc : Cx g p l s m [.ref x, .int i].toArray meth c cX5_water 2 RX5 := hc
  have hx := hc.1
  have hb := hc.2.1
  have hl : lv_has ls 2 [(0, .ref x), (1, .int i)] := hl
  refine lv_aload_n hx hb dX5_water_0 rfl (lv_at hl 0 rfl) ?_
  refine k_V0 hc [] cw_X5_63 rfl dX5_water_1 (c_X5_begin l hlf g _ x cs hW) hW.o hM hS hl.1 rfl rfl ⟨Nat.le_of_ble_eq_true rfl, Nat.le_of_ble_eq_true rfl⟩ ⟨Nat.le_of_ble_eq_true rfl, Nat.le_of_ble_eq_true rfl⟩ (Nat.le_of_ble_eq_true rfl) (fun H locs hM hS => ?_)
  have hW := ClsAt.put (g := g) (M := M) (x := x) (cs := (bgS cs))
  refine lv_aload_n hx hb dX5_water_4 rfl (lv_at hl 0 rfl) ?_
  refine lv_aload_n hx hb dX5_water_5 rfl (lv_at hl 0 rfl) ?_
  refine lv_iload_n hx hb dX5_water_6 rfl (lv_at hl 1 rfl) ?_
  refine k_V1 hc [.int i] cw_X5_106 rfl dX5_water_7 (c_X5_bringWater l hlf g _ x (bgS cs) i hW) hW.o hM hS hl.1 rfl rfl ⟨Nat.le_of_ble_eq_true rfl, Nat.le_of_ble_eq_true rfl⟩ ⟨Nat.le_of_ble_eq_true rfl, Nat.le_of_ble_eq_true rfl⟩ (Nat.le_of_ble_eq_true rfl) (fun H locs hM hS => ?_)
  have hM := hR.eq hM putC_putC
  have hW := ClsAt.put (g := g) (M := M) (x := x) (cs := (rsC (bgS cs) (bwO ((bgS cs) 0) i)))
  by_cases q_10_0 : ¬ (rvC (bwO ((bgS cs) 0) i)) = -1
  rotate_left 1
  · skip
    have hK := c_X5_settle l hlf g _ x (rsC (bgS cs) (bwO ((bgS cs) 0) i)) (rvC (bwO ((bgS cs) 0) i)) hW (nxOk_of hn bg_6)
    rw [if_neg q_10_0] at hK
    refine k_VX hc [.int (rvC (bwO ((bgS cs) 0) i))] cw_X5_70 rfl dX5_water_10 hK hW.o hM hS hl.1 rfl rfl ⟨Nat.le_of_ble_eq_true rfl, Nat.le_of_ble_eq_true rfl⟩ ⟨Nat.le_of_ble_eq_true rfl, Nat.le_of_ble_eq_true rfl⟩ (Nat.le_of_ble_eq_true rfl) (fun H locs q9 ce hM hS h1 h2 h3 => ?_)
    exact k_out hc hnx hM hS (Nat.le_of_ble_eq_true rfl) (Nat.le_of_ble_eq_true rfl) h1 h2 h3 (by first | exact if_neg q_10_0 | exact if_pos q_10_0)
  have hK := c_X5_settle l hlf g _ x (rsC (bgS cs) (bwO ((bgS cs) 0) i)) (rvC (bwO ((bgS cs) 0) i)) hW (nxOk_of hn bg_6)
  rw [if_pos q_10_0] at hK
  refine k_V1 hc [.int (rvC (bwO ((bgS cs) 0) i))] cw_X5_70 rfl dX5_water_10 hK hW.o hM hS hl.1 rfl rfl ⟨Nat.le_of_ble_eq_true rfl, Nat.le_of_ble_eq_true rfl⟩ ⟨Nat.le_of_ble_eq_true rfl, Nat.le_of_ble_eq_true rfl⟩ (Nat.le_of_ble_eq_true rfl) (fun H locs hM hS => ?_)
  have hM := hR.eq hM putC_putC
  have hW := ClsAt.put (g := g) (M := M) (x := x) (cs := (kpS (rsC (bgS cs) (bwO ((bgS cs) 0) i))))
  exact k_iret hc hr dX5_water_13 hM hS (Nat.le_of_ble_eq_true rfl) (Nat.le_of_ble_eq_true rfl) (by first | exact if_neg q_10_0 | exact if_pos q_10_0)
set_option maxHeartbeats 4000000 in
set_option maxRecDepth 100000 in
theorem c_X5_hours (l : Launch) (hlf : l.stackTraces = false) (g : GC) (M : HM) (x : Nat) (cs : CS) (i : Int32) (hW : ClsAt g M x cs) (hn : nxOk cs) : KM g l yX5_hours cX5_hours 2 (some .int) 9 1 6 [.ref x, .int i] M (if ¬ rvC (phO (cs 0) i) = -1 then .inl (some (.int (rvC (phO (cs 0) i))), (putC g M x (kpS (rsC (bgS cs) (phO (cs 0) i))))) else .inr ("java/lang/UnsupportedOperationException", (putC g M x (rsC (bgS cs) (phO (cs 0) i))))) := by
  refine k_meth hlf (by decide) (Nat.le_of_ble_eq_true rfl) fun p e s m below meth c ls hc hr hnx hM hS hl => ?_
  have hc : Cx g p l s m [.ref x, .int i].toArray meth c cX5_hours 2 RX5 := hc
  have hx := hc.1
  have hb := hc.2.1
  have hl : lv_has ls 2 [(0, .ref x), (1, .int i)] := hl
  refine lv_aload_n hx hb dX5_hours_0 rfl (lv_at hl 0 rfl) ?_
  refine k_V0 hc [] cw_X5_63 rfl dX5_hours_1 (c_X5_begin l hlf g _ x cs hW) hW.o hM hS hl.1 rfl rfl ⟨Nat.le_of_ble_eq_true rfl, Nat.le_of_ble_eq_true rfl⟩ ⟨Nat.le_of_ble_eq_true rfl, Nat.le_of_ble_eq_true rfl⟩ (Nat.le_of_ble_eq_true rfl) (fun H locs hM hS => ?_)
  have hW := ClsAt.put (g := g) (M := M) (x := x) (cs := (bgS cs))
  refine lv_aload_n hx hb dX5_hours_4 rfl (lv_at hl 0 rfl) ?_
  refine lv_aload_n hx hb dX5_hours_5 rfl (lv_at hl 0 rfl) ?_
  refine lv_iload_n hx hb dX5_hours_6 rfl (lv_at hl 1 rfl) ?_
  refine k_V1 hc [.int i] cw_X5_109 rfl dX5_hours_7 (c_X5_passHours l hlf g _ x (bgS cs) i hW) hW.o hM hS hl.1 rfl rfl ⟨Nat.le_of_ble_eq_true rfl, Nat.le_of_ble_eq_true rfl⟩ ⟨Nat.le_of_ble_eq_true rfl, Nat.le_of_ble_eq_true rfl⟩ (Nat.le_of_ble_eq_true rfl) (fun H locs hM hS => ?_)
  have hM := hR.eq hM putC_putC
  have hW := ClsAt.put (g := g) (M := M) (x := x) (cs := (rsC (bgS cs) (phO ((bgS cs) 0) i)))
  by_cases q_10_0 : ¬ (rvC (phO ((bgS cs) 0) i)) = -1
  rotate_left 1
  · skip
    have hK := c_X5_settle l hlf g _ x (rsC (bgS cs) (phO ((bgS cs) 0) i)) (rvC (phO ((bgS cs) 0) i)) hW (nxOk_of hn bg_6)
    rw [if_neg q_10_0] at hK
    refine k_VX hc [.int (rvC (phO ((bgS cs) 0) i))] cw_X5_70 rfl dX5_hours_10 hK hW.o hM hS hl.1 rfl rfl ⟨Nat.le_of_ble_eq_true rfl, Nat.le_of_ble_eq_true rfl⟩ ⟨Nat.le_of_ble_eq_true rfl, Nat.le_of_ble_eq_true rfl⟩ (Nat.le_of_ble_eq_true rfl) (fun H locs q9 ce hM hS h1 h2 h3 => ?_)
    exact k_out hc hnx hM hS (Nat.le_of_ble_eq_true rfl) (Nat.le_of_ble_eq_true rfl) h1 h2 h3 (by first | exact if_neg q_10_0 | exact if_pos q_10_0)
  have hK := c_X5_settle l hlf g _ x (rsC (bgS cs) (phO ((bgS cs) 0) i)) (rvC (phO ((bgS cs) 0) i)) hW (nxOk_of hn bg_6)
  rw [if_pos q_10_0] at hK
  refine k_V1 hc [.int (rvC (phO ((bgS cs) 0) i))] cw_X5_70 rfl dX5_hours_10 hK hW.o hM hS hl.1 rfl rfl ⟨Nat.le_of_ble_eq_true rfl, Nat.le_of_ble_eq_true rfl⟩ ⟨Nat.le_of_ble_eq_true rfl, Nat.le_of_ble_eq_true rfl⟩ (Nat.le_of_ble_eq_true rfl) (fun H locs hM hS => ?_)
  have hM := hR.eq hM putC_putC
  have hW := ClsAt.put (g := g) (M := M) (x := x) (cs := (kpS (rsC (bgS cs) (phO ((bgS cs) 0) i))))
  exact k_iret hc hr dX5_hours_13 hM hS (Nat.le_of_ble_eq_true rfl) (Nat.le_of_ble_eq_true rfl) (by first | exact if_neg q_10_0 | exact if_pos q_10_0)
set_option maxHeartbeats 4000000 in
set_option maxRecDepth 100000 in
theorem c_X5_needStake (l : Launch) (hlf : l.stackTraces = false) (g : GC) (M : HM) (x : Nat) (cs : CS) (i : Int32) (hW : ClsAt g M x cs) : KM g l yX5_needStake cX5_needStake 2 none 6 1 6 [.ref x, .int i] M (if rin 10 (cs 0 8 0) i then .inl (none, M) else .inr ("java/lang/IndexOutOfBoundsException", M)) := by
  refine k_meth hlf (by decide) (Nat.le_of_ble_eq_true rfl) fun p e s m below meth c ls hc hr hnx hM hS hl => ?_
  have hc : Cx g p l s m [.ref x, .int i].toArray meth c cX5_needStake 2 RX5 := hc
  have hx := hc.1
  have hb := hc.2.1
  have hl : lv_has ls 2 [(0, .ref x), (1, .int i)] := hl
  refine lv_aload_n hx hb dX5_needStake_0 rfl (lv_at hl 0 rfl) ?_
  refine gt_X5_10 hc dX5_needStake_1 hM hW.o rfl ?_
  refine gt_X5_116 hc dX5_needStake_4 hM (hW.flat (k := 0) (a := x + 1) (by decide) rfl).o rfl ?_
  refine lv_iload_n hx hb dX5_needStake_7 rfl (lv_at hl 1 rfl) ?_
  refine k_V1 hc [.int i] cw_X5_362 rfl dX5_needStake_8 (c_X3_has l hlf g _ (x + 2) 10 (cs 0 8 0) (cs 0 0) i ((hW.flat (k := 0) (a := x + 1) (by decide) rfl).row (k := 0) (r := x + 2) (by decide) rfl rfl)) ((hW.flat (k := 0) (a := x + 1) (by decide) rfl).row (k := 0) (r := x + 2) (by decide) rfl rfl).1 hM hS hl.1 rfl rfl ⟨Nat.le_of_ble_eq_true rfl, Nat.le_of_ble_eq_true rfl⟩ ⟨Nat.le_of_ble_eq_true rfl, Nat.le_of_ble_eq_true rfl⟩ (Nat.le_of_ble_eq_true rfl) (fun H locs hM hS => ?_)
  refine lv_if_ne (tgt := 25) hx hb dX5_needStake_11 (by decide) (fun c_11 => ?_) (fun c_11 => ?_)
  · skip
    have c_11 := bI_ne.mp c_11
    exact k_vret hc hr dX5_needStake_25 hM hS (Nat.le_of_ble_eq_true rfl) (Nat.le_of_ble_eq_true rfl) (by simp only [eq_true c_11, not_false_eq_true, not_true_eq_false, and_true, true_and, and_false, false_and, and_self, ↓reduceIte, or_true, true_or, or_self, or_false, false_or])
  · skip
    have c_11 := bI_eq.mp c_11
    exact k_throwW hc hnx th_IndexOutOfBoundsException 11 tx_11 hM hS hl.1 dX5_needStake_14 dX5_needStake_17 dX5_needStake_18 dX5_needStake_21 dX5_needStake_24 ⟨Nat.le_of_ble_eq_true rfl, Nat.le_of_ble_eq_true rfl, Nat.le_of_ble_eq_true rfl, Nat.le_of_ble_eq_true rfl⟩ (Nat.le_of_ble_eq_true rfl) (Nat.le_of_ble_eq_true rfl) (by simp only [eq_false c_11, not_false_eq_true, not_true_eq_false, and_true, true_and, and_false, false_and, and_self, ↓reduceIte, or_true, true_or, or_self, or_false, false_or])
set_option maxHeartbeats 4000000 in
set_option maxRecDepth 100000 in
theorem c_X5_needPost (l : Launch) (hlf : l.stackTraces = false) (g : GC) (M : HM) (x : Nat) (cs : CS) (i : Int32) (hW : ClsAt g M x cs) : KM g l yX5_needPost cX5_needPost 2 none 6 1 6 [.ref x, .int i] M (if rin 4 (cs 0 8 1) i then .inl (none, M) else .inr ("java/lang/IndexOutOfBoundsException", M)) := by
  refine k_meth hlf (by decide) (Nat.le_of_ble_eq_true rfl) fun p e s m below meth c ls hc hr hnx hM hS hl => ?_
  have hc : Cx g p l s m [.ref x, .int i].toArray meth c cX5_needPost 2 RX5 := hc
  have hx := hc.1
  have hb := hc.2.1
  have hl : lv_has ls 2 [(0, .ref x), (1, .int i)] := hl
  refine lv_aload_n hx hb dX5_needPost_0 rfl (lv_at hl 0 rfl) ?_
  refine gt_X5_10 hc dX5_needPost_1 hM hW.o rfl ?_
  refine gt_X5_131 hc dX5_needPost_4 hM (hW.flat (k := 0) (a := x + 1) (by decide) rfl).o rfl ?_
  refine lv_iload_n hx hb dX5_needPost_7 rfl (lv_at hl 1 rfl) ?_
  refine k_V1 hc [.int i] cw_X5_362 rfl dX5_needPost_8 (c_X3_has l hlf g _ (x + 4) 4 (cs 0 8 1) (cs 0 1) i ((hW.flat (k := 0) (a := x + 1) (by decide) rfl).row (k := 1) (r := x + 4) (by decide) rfl rfl)) ((hW.flat (k := 0) (a := x + 1) (by decide) rfl).row (k := 1) (r := x + 4) (by decide) rfl rfl).1 hM hS hl.1 rfl rfl ⟨Nat.le_of_ble_eq_true rfl, Nat.le_of_ble_eq_true rfl⟩ ⟨Nat.le_of_ble_eq_true rfl, Nat.le_of_ble_eq_true rfl⟩ (Nat.le_of_ble_eq_true rfl) (fun H locs hM hS => ?_)
  refine lv_if_ne (tgt := 25) hx hb dX5_needPost_11 (by decide) (fun c_11 => ?_) (fun c_11 => ?_)
  · skip
    have c_11 := bI_ne.mp c_11
    exact k_vret hc hr dX5_needPost_25 hM hS (Nat.le_of_ble_eq_true rfl) (Nat.le_of_ble_eq_true rfl) (by simp only [eq_true c_11, not_false_eq_true, not_true_eq_false, and_true, true_and, and_false, false_and, and_self, ↓reduceIte, or_true, true_or, or_self, or_false, false_or])
  · skip
    have c_11 := bI_eq.mp c_11
    exact k_throwW hc hnx th_IndexOutOfBoundsException 12 tx_12 hM hS hl.1 dX5_needPost_14 dX5_needPost_17 dX5_needPost_18 dX5_needPost_21 dX5_needPost_24 ⟨Nat.le_of_ble_eq_true rfl, Nat.le_of_ble_eq_true rfl, Nat.le_of_ble_eq_true rfl, Nat.le_of_ble_eq_true rfl⟩ (Nat.le_of_ble_eq_true rfl) (Nat.le_of_ble_eq_true rfl) (by simp only [eq_false c_11, not_false_eq_true, not_true_eq_false, and_true, true_and, and_false, false_and, and_self, ↓reduceIte, or_true, true_or, or_self, or_false, false_or])
set_option maxHeartbeats 4000000 in
set_option maxRecDepth 100000 in
theorem c_X5_needSheet (l : Launch) (hlf : l.stackTraces = false) (g : GC) (M : HM) (x : Nat) (cs : CS) (i : Int32) (hW : ClsAt g M x cs) : KM g l yX5_needSheet cX5_needSheet 2 none 6 1 6 [.ref x, .int i] M (if hasSh (cs 0) i then .inl (none, M) else .inr ("java/lang/IndexOutOfBoundsException", M)) := by
  refine k_meth hlf (by decide) (Nat.le_of_ble_eq_true rfl) fun p e s m below meth c ls hc hr hnx hM hS hl => ?_
  have hc : Cx g p l s m [.ref x, .int i].toArray meth c cX5_needSheet 2 RX5 := hc
  have hx := hc.1
  have hb := hc.2.1
  have hl : lv_has ls 2 [(0, .ref x), (1, .int i)] := hl
  refine lv_aload_n hx hb dX5_needSheet_0 rfl (lv_at hl 0 rfl) ?_
  refine gt_X5_10 hc dX5_needSheet_1 hM hW.o rfl ?_
  refine lv_iload_n hx hb dX5_needSheet_4 rfl (lv_at hl 1 rfl) ?_
  refine k_V1 hc [.int i] cw_X5_365 rfl dX5_needSheet_5 (c_X0_hasSheet l hlf g _ (x + 1) (cs 0) i (hW.flat (k := 0) (a := x + 1) (by decide) rfl)) (hW.flat (k := 0) (a := x + 1) (by decide) rfl).o hM hS hl.1 rfl rfl ⟨Nat.le_of_ble_eq_true rfl, Nat.le_of_ble_eq_true rfl⟩ ⟨Nat.le_of_ble_eq_true rfl, Nat.le_of_ble_eq_true rfl⟩ (Nat.le_of_ble_eq_true rfl) (fun H locs hM hS => ?_)
  refine lv_if_ne (tgt := 22) hx hb dX5_needSheet_8 (by decide) (fun c_8 => ?_) (fun c_8 => ?_)
  · skip
    have c_8 := bI_ne.mp c_8
    exact k_vret hc hr dX5_needSheet_22 hM hS (Nat.le_of_ble_eq_true rfl) (Nat.le_of_ble_eq_true rfl) (by simp only [eq_true c_8, not_false_eq_true, not_true_eq_false, and_true, true_and, and_false, false_and, and_self, ↓reduceIte, or_true, true_or, or_self, or_false, false_or])
  · skip
    have c_8 := bI_eq.mp c_8
    exact k_throwW hc hnx th_IndexOutOfBoundsException 15 tx_15 hM hS hl.1 dX5_needSheet_11 dX5_needSheet_14 dX5_needSheet_15 dX5_needSheet_18 dX5_needSheet_21 ⟨Nat.le_of_ble_eq_true rfl, Nat.le_of_ble_eq_true rfl, Nat.le_of_ble_eq_true rfl, Nat.le_of_ble_eq_true rfl⟩ (Nat.le_of_ble_eq_true rfl) (Nat.le_of_ble_eq_true rfl) (by simp only [eq_false c_8, not_false_eq_true, not_true_eq_false, and_true, true_and, and_false, false_and, and_self, ↓reduceIte, or_true, true_or, or_self, or_false, false_or])
set_option maxHeartbeats 4000000 in
set_option maxRecDepth 100000 in
theorem c_X5_needCamel (l : Launch) (hlf : l.stackTraces = false) (g : GC) (M : HM) (x : Nat) (cs : CS) (i : Int32) (hW : ClsAt g M x cs) : KM g l yX5_needCamel cX5_needCamel 2 none 6 1 6 [.ref x, .int i] M (if rin 6 (cs 0 8 4) i then .inl (none, M) else .inr ("java/lang/IndexOutOfBoundsException", M)) := by
  refine k_meth hlf (by decide) (Nat.le_of_ble_eq_true rfl) fun p e s m below meth c ls hc hr hnx hM hS hl => ?_
  have hc : Cx g p l s m [.ref x, .int i].toArray meth c cX5_needCamel 2 RX5 := hc
  have hx := hc.1
  have hb := hc.2.1
  have hl : lv_has ls 2 [(0, .ref x), (1, .int i)] := hl
  refine lv_aload_n hx hb dX5_needCamel_0 rfl (lv_at hl 0 rfl) ?_
  refine gt_X5_10 hc dX5_needCamel_1 hM hW.o rfl ?_
  refine gt_X5_137 hc dX5_needCamel_4 hM (hW.flat (k := 0) (a := x + 1) (by decide) rfl).o rfl ?_
  refine lv_iload_n hx hb dX5_needCamel_7 rfl (lv_at hl 1 rfl) ?_
  refine k_V1 hc [.int i] cw_X5_362 rfl dX5_needCamel_8 (c_X3_has l hlf g _ (x + 10) 6 (cs 0 8 4) (cs 0 4) i ((hW.flat (k := 0) (a := x + 1) (by decide) rfl).row (k := 4) (r := x + 10) (by decide) rfl rfl)) ((hW.flat (k := 0) (a := x + 1) (by decide) rfl).row (k := 4) (r := x + 10) (by decide) rfl rfl).1 hM hS hl.1 rfl rfl ⟨Nat.le_of_ble_eq_true rfl, Nat.le_of_ble_eq_true rfl⟩ ⟨Nat.le_of_ble_eq_true rfl, Nat.le_of_ble_eq_true rfl⟩ (Nat.le_of_ble_eq_true rfl) (fun H locs hM hS => ?_)
  refine lv_if_ne (tgt := 25) hx hb dX5_needCamel_11 (by decide) (fun c_11 => ?_) (fun c_11 => ?_)
  · skip
    have c_11 := bI_ne.mp c_11
    exact k_vret hc hr dX5_needCamel_25 hM hS (Nat.le_of_ble_eq_true rfl) (Nat.le_of_ble_eq_true rfl) (by simp only [eq_true c_11, not_false_eq_true, not_true_eq_false, and_true, true_and, and_false, false_and, and_self, ↓reduceIte, or_true, true_or, or_self, or_false, false_or])
  · skip
    have c_11 := bI_eq.mp c_11
    exact k_throwW hc hnx th_IndexOutOfBoundsException 13 tx_13 hM hS hl.1 dX5_needCamel_14 dX5_needCamel_17 dX5_needCamel_18 dX5_needCamel_21 dX5_needCamel_24 ⟨Nat.le_of_ble_eq_true rfl, Nat.le_of_ble_eq_true rfl, Nat.le_of_ble_eq_true rfl, Nat.le_of_ble_eq_true rfl⟩ (Nat.le_of_ble_eq_true rfl) (Nat.le_of_ble_eq_true rfl) (by simp only [eq_false c_11, not_false_eq_true, not_true_eq_false, and_true, true_and, and_false, false_and, and_self, ↓reduceIte, or_true, true_or, or_self, or_false, false_or])
set_option maxHeartbeats 4000000 in
set_option maxRecDepth 100000 in
theorem c_X5_stakeAt (l : Launch) (hlf : l.stackTraces = false) (g : GC) (M : HM) (x : Nat) (cs : CS) (i : Int32) (hW : ClsAt g M x cs) : KM g l yX5_stakeAt cX5_stakeAt 2 (some .int) 7 3 18 [.ref x, .int i] M (if rin 10 (cs 0 8 0) i then .inl (some (.int (gS (cs 0) i)), M) else .inr ("java/lang/IndexOutOfBoundsException", M)) := by
  refine k_meth hlf (by decide) (Nat.le_of_ble_eq_true rfl) fun p e s m below meth c ls hc hr hnx hM hS hl => ?_
  have hc : Cx g p l s m [.ref x, .int i].toArray meth c cX5_stakeAt 2 RX5 := hc
  have hx := hc.1
  have hb := hc.2.1
  have hl : lv_has ls 2 [(0, .ref x), (1, .int i)] := hl
  refine lv_aload_n hx hb dX5_stakeAt_0 rfl (lv_at hl 0 rfl) ?_
  refine lv_iload_n hx hb dX5_stakeAt_1 rfl (lv_at hl 1 rfl) ?_
  by_cases q_2_0 : rin 10 (cs 0 8 0) i
  rotate_left 1
  · skip
    have hK := c_X5_needStake l hlf g _ x cs i hW
    rw [if_neg q_2_0] at hK
    refine k_VX hc [.int i] cw_X5_112 rfl dX5_stakeAt_2 hK hW.o hM hS hl.1 rfl rfl ⟨Nat.le_of_ble_eq_true rfl, Nat.le_of_ble_eq_true rfl⟩ ⟨Nat.le_of_ble_eq_true rfl, Nat.le_of_ble_eq_true rfl⟩ (Nat.le_of_ble_eq_true rfl) (fun H locs q9 ce hM hS h1 h2 h3 => ?_)
    exact k_out hc hnx hM hS (Nat.le_of_ble_eq_true rfl) (Nat.le_of_ble_eq_true rfl) h1 h2 h3 (by first | (simp only [eq_false q_2_0, not_false_eq_true, not_true_eq_false, and_true, true_and, and_false, false_and, and_self, ↓reduceIte, or_true, true_or, or_self, or_false, false_or]; done) | (simp only [eq_false q_2_0, not_false_eq_true, not_true_eq_false, and_true, true_and, and_false, false_and, and_self, ↓reduceIte, or_true, true_or, or_self, or_false, false_or]; rfl))
  have hK := c_X5_needStake l hlf g _ x cs i hW
  rw [if_pos q_2_0] at hK
  refine k_V0 hc [.int i] cw_X5_112 rfl dX5_stakeAt_2 hK hW.o hM hS hl.1 rfl rfl ⟨Nat.le_of_ble_eq_true rfl, Nat.le_of_ble_eq_true rfl⟩ ⟨Nat.le_of_ble_eq_true rfl, Nat.le_of_ble_eq_true rfl⟩ (Nat.le_of_ble_eq_true rfl) (fun H locs hM hS => ?_)
  refine lv_aload_n hx hb dX5_stakeAt_5 rfl (lv_at hl 0 rfl) ?_
  refine gt_X5_10 hc dX5_stakeAt_6 hM hW.o rfl ?_
  refine gt_X5_116 hc dX5_stakeAt_9 hM (hW.flat (k := 0) (a := x + 1) (by decide) rfl).o rfl ?_
  refine lv_iload_n hx hb dX5_stakeAt_12 rfl (lv_at hl 1 rfl) ?_
  refine k_V1 hc [.int i] cw_X5_120 rfl dX5_stakeAt_13 (c_X3_get l hlf g _ (x + 2) 10 (cs 0 8 0) (cs 0 0) i ((hW.flat (k := 0) (a := x + 1) (by decide) rfl).row (k := 0) (r := x + 2) (by decide) rfl rfl) (by decide)) ((hW.flat (k := 0) (a := x + 1) (by decide) rfl).row (k := 0) (r := x + 2) (by decide) rfl rfl).1 hM hS hl.1 rfl rfl ⟨Nat.le_of_ble_eq_true rfl, Nat.le_of_ble_eq_true rfl⟩ ⟨Nat.le_of_ble_eq_true rfl, Nat.le_of_ble_eq_true rfl⟩ (Nat.le_of_ble_eq_true rfl) (fun H locs hM hS => ?_)
  exact k_iret hc hr dX5_stakeAt_16 hM hS (Nat.le_of_ble_eq_true rfl) (Nat.le_of_ble_eq_true rfl) (by first | (simp only [eq_true q_2_0, not_false_eq_true, not_true_eq_false, and_true, true_and, and_false, false_and, and_self, ↓reduceIte, or_true, true_or, or_self, or_false, false_or]; done) | (simp only [eq_true q_2_0, not_false_eq_true, not_true_eq_false, and_true, true_and, and_false, false_and, and_self, ↓reduceIte, or_true, true_or, or_self, or_false, false_or]; rfl))
set_option maxHeartbeats 4000000 in
set_option maxRecDepth 100000 in
theorem c_X5_postOf (l : Launch) (hlf : l.stackTraces = false) (g : GC) (M : HM) (x : Nat) (cs : CS) (i : Int32) (o : Int32) (hW : ClsAt g M x cs) : KM g l yX5_postOf cX5_postOf 3 (some .int) 7 3 18 [.ref x, .int i, .int o] M (if rin 4 (cs 0 8 1) i then .inl (some (.int (if o = 0 then gP (cs 0) i else gH (cs 0) i)), M) else .inr ("java/lang/IndexOutOfBoundsException", M)) := by
  refine k_meth hlf (by decide) (Nat.le_of_ble_eq_true rfl) fun p e s m below meth c ls hc hr hnx hM hS hl => ?_
  have hc : Cx g p l s m [.ref x, .int i, .int o].toArray meth c cX5_postOf 3 RX5 := hc
  have hx := hc.1
  have hb := hc.2.1
  have hl : lv_has ls 3 [(0, .ref x), (1, .int i), (2, .int o)] := hl
  refine lv_aload_n hx hb dX5_postOf_0 rfl (lv_at hl 0 rfl) ?_
  refine lv_iload_n hx hb dX5_postOf_1 rfl (lv_at hl 1 rfl) ?_
  by_cases q_2_0 : rin 4 (cs 0 8 1) i
  rotate_left 1
  · skip
    have hK := c_X5_needPost l hlf g _ x cs i hW
    rw [if_neg q_2_0] at hK
    refine k_VX hc [.int i] cw_X5_125 rfl dX5_postOf_2 hK hW.o hM hS hl.1 rfl rfl ⟨Nat.le_of_ble_eq_true rfl, Nat.le_of_ble_eq_true rfl⟩ ⟨Nat.le_of_ble_eq_true rfl, Nat.le_of_ble_eq_true rfl⟩ (Nat.le_of_ble_eq_true rfl) (fun H locs q9 ce hM hS h1 h2 h3 => ?_)
    exact k_out hc hnx hM hS (Nat.le_of_ble_eq_true rfl) (Nat.le_of_ble_eq_true rfl) h1 h2 h3 (by first | (simp only [eq_false q_2_0, not_false_eq_true, not_true_eq_false, and_true, true_and, and_false, false_and, and_self, ↓reduceIte, or_true, true_or, or_self, or_false, false_or]; done) | (simp only [eq_false q_2_0, not_false_eq_true, not_true_eq_false, and_true, true_and, and_false, false_and, and_self, ↓reduceIte, or_true, true_or, or_self, or_false, false_or]; rfl))
  have hK := c_X5_needPost l hlf g _ x cs i hW
  rw [if_pos q_2_0] at hK
  refine k_V0 hc [.int i] cw_X5_125 rfl dX5_postOf_2 hK hW.o hM hS hl.1 rfl rfl ⟨Nat.le_of_ble_eq_true rfl, Nat.le_of_ble_eq_true rfl⟩ ⟨Nat.le_of_ble_eq_true rfl, Nat.le_of_ble_eq_true rfl⟩ (Nat.le_of_ble_eq_true rfl) (fun H locs hM hS => ?_)
  refine lv_iload_n hx hb dX5_postOf_5 rfl (lv_at hl 2 rfl) ?_
  refine lv_if_eq (tgt := 23) hx hb dX5_postOf_6 (by decide) (fun c_6 => ?_) (fun c_6 => ?_)
  · skip
    refine lv_aload_n hx hb dX5_postOf_23 rfl (lv_at hl 0 rfl) ?_
    refine gt_X5_10 hc dX5_postOf_24 hM hW.o rfl ?_
    refine gt_X5_131 hc dX5_postOf_27 hM (hW.flat (k := 0) (a := x + 1) (by decide) rfl).o rfl ?_
    refine lv_iload_n hx hb dX5_postOf_30 rfl (lv_at hl 1 rfl) ?_
    refine k_V1 hc [.int i] cw_X5_120 rfl dX5_postOf_31 (c_X3_get l hlf g _ (x + 4) 4 (cs 0 8 1) (cs 0 1) i ((hW.flat (k := 0) (a := x + 1) (by decide) rfl).row (k := 1) (r := x + 4) (by decide) rfl rfl) (by decide)) ((hW.flat (k := 0) (a := x + 1) (by decide) rfl).row (k := 1) (r := x + 4) (by decide) rfl rfl).1 hM hS hl.1 rfl rfl ⟨Nat.le_of_ble_eq_true rfl, Nat.le_of_ble_eq_true rfl⟩ ⟨Nat.le_of_ble_eq_true rfl, Nat.le_of_ble_eq_true rfl⟩ (Nat.le_of_ble_eq_true rfl) (fun H locs hM hS => ?_)
    exact k_iret hc hr dX5_postOf_34 hM hS (Nat.le_of_ble_eq_true rfl) (Nat.le_of_ble_eq_true rfl) (by first | (simp only [eq_true q_2_0, eq_true c_6, not_false_eq_true, not_true_eq_false, and_true, true_and, and_false, false_and, and_self, ↓reduceIte, or_true, true_or, or_self, or_false, false_or]; done) | (simp only [eq_true q_2_0, eq_true c_6, not_false_eq_true, not_true_eq_false, and_true, true_and, and_false, false_and, and_self, ↓reduceIte, or_true, true_or, or_self, or_false, false_or]; rfl))
  · skip
    refine lv_aload_n hx hb dX5_postOf_9 rfl (lv_at hl 0 rfl) ?_
    refine gt_X5_10 hc dX5_postOf_10 hM hW.o rfl ?_
    refine gt_X5_128 hc dX5_postOf_13 hM (hW.flat (k := 0) (a := x + 1) (by decide) rfl).o rfl ?_
    refine lv_iload_n hx hb dX5_postOf_16 rfl (lv_at hl 1 rfl) ?_
    refine k_V1 hc [.int i] cw_X5_120 rfl dX5_postOf_17 (c_X3_get l hlf g _ (x + 6) 4 (cs 0 8 2) (cs 0 2) i ((hW.flat (k := 0) (a := x + 1) (by decide) rfl).row (k := 2) (r := x + 6) (by decide) rfl rfl) (by decide)) ((hW.flat (k := 0) (a := x + 1) (by decide) rfl).row (k := 2) (r := x + 6) (by decide) rfl rfl).1 hM hS hl.1 rfl rfl ⟨Nat.le_of_ble_eq_true rfl, Nat.le_of_ble_eq_true rfl⟩ ⟨Nat.le_of_ble_eq_true rfl, Nat.le_of_ble_eq_true rfl⟩ (Nat.le_of_ble_eq_true rfl) (fun H locs hM hS => ?_)
    refine lv_goto (tgt := 34) hx hb dX5_postOf_20 (by decide) ?_
    exact k_iret hc hr dX5_postOf_34 hM hS (Nat.le_of_ble_eq_true rfl) (Nat.le_of_ble_eq_true rfl) (by first | (simp only [eq_true q_2_0, eq_false c_6, not_false_eq_true, not_true_eq_false, and_true, true_and, and_false, false_and, and_self, ↓reduceIte, or_true, true_or, or_self, or_false, false_or]; done) | (simp only [eq_true q_2_0, eq_false c_6, not_false_eq_true, not_true_eq_false, and_true, true_and, and_false, false_and, and_self, ↓reduceIte, or_true, true_or, or_self, or_false, false_or]; rfl))
set_option maxHeartbeats 4000000 in
set_option maxRecDepth 100000 in
theorem c_X5_camelOf (l : Launch) (hlf : l.stackTraces = false) (g : GC) (M : HM) (x : Nat) (cs : CS) (i : Int32) (w : Int32) (hW : ClsAt g M x cs) : KM g l yX5_camelOf cX5_camelOf 3 (some .int) 7 3 18 [.ref x, .int i, .int w] M (if rin 6 (cs 0 8 4) i then if cmOk w then .inl (some (.int (cmV (cs 0) i w)), M) else .inr ("java/lang/IllegalArgumentException", M) else .inr ("java/lang/IndexOutOfBoundsException", M)) := by
  refine k_meth hlf (by decide) (Nat.le_of_ble_eq_true rfl) fun p e s m below meth c ls hc hr hnx hM hS hl => ?_
  have hc : Cx g p l s m [.ref x, .int i, .int w].toArray meth c cX5_camelOf 3 RX5 := hc
  have hx := hc.1
  have hb := hc.2.1
  have hl : lv_has ls 3 [(0, .ref x), (1, .int i), (2, .int w)] := hl
  refine lv_aload_n hx hb dX5_camelOf_0 rfl (lv_at hl 0 rfl) ?_
  refine lv_iload_n hx hb dX5_camelOf_1 rfl (lv_at hl 1 rfl) ?_
  by_cases q_2_0 : rin 6 (cs 0 8 4) i
  rotate_left 1
  · skip
    have hK := c_X5_needCamel l hlf g _ x cs i hW
    rw [if_neg q_2_0] at hK
    refine k_VX hc [.int i] cw_X5_134 rfl dX5_camelOf_2 hK hW.o hM hS hl.1 rfl rfl ⟨Nat.le_of_ble_eq_true rfl, Nat.le_of_ble_eq_true rfl⟩ ⟨Nat.le_of_ble_eq_true rfl, Nat.le_of_ble_eq_true rfl⟩ (Nat.le_of_ble_eq_true rfl) (fun H locs q9 ce hM hS h1 h2 h3 => ?_)
    exact k_out hc hnx hM hS (Nat.le_of_ble_eq_true rfl) (Nat.le_of_ble_eq_true rfl) h1 h2 h3 (by first | (simp only [cmV, cmOk, eq_false q_2_0, not_false_eq_true, not_true_eq_false, and_true, true_and, and_false, false_and, and_self, ↓reduceIte, or_true, true_or, or_self, or_false, false_or]; done) | (simp only [cmV, cmOk, eq_false q_2_0, not_false_eq_true, not_true_eq_false, and_true, true_and, and_false, false_and, and_self, ↓reduceIte, or_true, true_or, or_self, or_false, false_or]; rfl))
  have hK := c_X5_needCamel l hlf g _ x cs i hW
  rw [if_pos q_2_0] at hK
  refine k_V0 hc [.int i] cw_X5_134 rfl dX5_camelOf_2 hK hW.o hM hS hl.1 rfl rfl ⟨Nat.le_of_ble_eq_true rfl, Nat.le_of_ble_eq_true rfl⟩ ⟨Nat.le_of_ble_eq_true rfl, Nat.le_of_ble_eq_true rfl⟩ (Nat.le_of_ble_eq_true rfl) (fun H locs hM hS => ?_)
  refine lv_iload_n hx hb dX5_camelOf_5 rfl (lv_at hl 2 rfl) ?_
  by_cases c_6_0 : w = 0
  · skip
    have e_6 : w.toInt = 0 := by rw [c_6_0]; rfl
    refine lv_tableIn (tgt := 40) hx hb dX5_camelOf_6 (by rw [e_6]; decide) (by rw [e_6]; decide) (by rw [e_6]; rfl) (by decide) ?_
    refine lv_aload_n hx hb dX5_camelOf_40 rfl (lv_at hl 0 rfl) ?_
    refine gt_X5_10 hc dX5_camelOf_41 hM hW.o rfl ?_
    refine gt_X5_137 hc dX5_camelOf_44 hM (hW.flat (k := 0) (a := x + 1) (by decide) rfl).o rfl ?_
    refine lv_iload_n hx hb dX5_camelOf_47 rfl (lv_at hl 1 rfl) ?_
    refine k_V1 hc [.int i] cw_X5_120 rfl dX5_camelOf_48 (c_X3_get l hlf g _ (x + 10) 6 (cs 0 8 4) (cs 0 4) i ((hW.flat (k := 0) (a := x + 1) (by decide) rfl).row (k := 4) (r := x + 10) (by decide) rfl rfl) (by decide)) ((hW.flat (k := 0) (a := x + 1) (by decide) rfl).row (k := 4) (r := x + 10) (by decide) rfl rfl).1 hM hS hl.1 rfl rfl ⟨Nat.le_of_ble_eq_true rfl, Nat.le_of_ble_eq_true rfl⟩ ⟨Nat.le_of_ble_eq_true rfl, Nat.le_of_ble_eq_true rfl⟩ (Nat.le_of_ble_eq_true rfl) (fun H locs hM hS => ?_)
    exact k_iret hc hr dX5_camelOf_51 hM hS (Nat.le_of_ble_eq_true rfl) (Nat.le_of_ble_eq_true rfl) (by first | (simp only [cmV, cmOk, eq_true q_2_0, eq_true c_6_0, not_false_eq_true, not_true_eq_false, and_true, true_and, and_false, false_and, and_self, ↓reduceIte, or_true, true_or, or_self, or_false, false_or]; done) | (simp only [cmV, cmOk, eq_true q_2_0, eq_true c_6_0, not_false_eq_true, not_true_eq_false, and_true, true_and, and_false, false_and, and_self, ↓reduceIte, or_true, true_or, or_self, or_false, false_or]; rfl))
  by_cases c_6_1 : w = 1
  · skip
    have e_6 : w.toInt = 1 := by rw [c_6_1]; rfl
    refine lv_tableIn (tgt := 52) hx hb dX5_camelOf_6 (by rw [e_6]; decide) (by rw [e_6]; decide) (by rw [e_6]; rfl) (by decide) ?_
    refine lv_aload_n hx hb dX5_camelOf_52 rfl (lv_at hl 0 rfl) ?_
    refine gt_X5_10 hc dX5_camelOf_53 hM hW.o rfl ?_
    refine gt_X5_140 hc dX5_camelOf_56 hM (hW.flat (k := 0) (a := x + 1) (by decide) rfl).o rfl ?_
    refine lv_iload_n hx hb dX5_camelOf_59 rfl (lv_at hl 1 rfl) ?_
    refine k_V1 hc [.int i] cw_X5_120 rfl dX5_camelOf_60 (c_X3_get l hlf g _ (x + 12) 6 (cs 0 8 5) (cs 0 5) i ((hW.flat (k := 0) (a := x + 1) (by decide) rfl).row (k := 5) (r := x + 12) (by decide) rfl rfl) (by decide)) ((hW.flat (k := 0) (a := x + 1) (by decide) rfl).row (k := 5) (r := x + 12) (by decide) rfl rfl).1 hM hS hl.1 rfl rfl ⟨Nat.le_of_ble_eq_true rfl, Nat.le_of_ble_eq_true rfl⟩ ⟨Nat.le_of_ble_eq_true rfl, Nat.le_of_ble_eq_true rfl⟩ (Nat.le_of_ble_eq_true rfl) (fun H locs hM hS => ?_)
    exact k_iret hc hr dX5_camelOf_63 hM hS (Nat.le_of_ble_eq_true rfl) (Nat.le_of_ble_eq_true rfl) (by first | (simp only [cmV, cmOk, eq_true q_2_0, eq_false c_6_0, eq_true c_6_1, not_false_eq_true, not_true_eq_false, and_true, true_and, and_false, false_and, and_self, ↓reduceIte, or_true, true_or, or_self, or_false, false_or]; done) | (simp only [cmV, cmOk, eq_true q_2_0, eq_false c_6_0, eq_true c_6_1, not_false_eq_true, not_true_eq_false, and_true, true_and, and_false, false_and, and_self, ↓reduceIte, or_true, true_or, or_self, or_false, false_or]; rfl))
  by_cases c_6_2 : w = 2
  · skip
    have e_6 : w.toInt = 2 := by rw [c_6_2]; rfl
    refine lv_tableIn (tgt := 64) hx hb dX5_camelOf_6 (by rw [e_6]; decide) (by rw [e_6]; decide) (by rw [e_6]; rfl) (by decide) ?_
    refine lv_aload_n hx hb dX5_camelOf_64 rfl (lv_at hl 0 rfl) ?_
    refine gt_X5_10 hc dX5_camelOf_65 hM hW.o rfl ?_
    refine gt_X5_143 hc dX5_camelOf_68 hM (hW.flat (k := 0) (a := x + 1) (by decide) rfl).o rfl ?_
    refine lv_iload_n hx hb dX5_camelOf_71 rfl (lv_at hl 1 rfl) ?_
    refine k_V1 hc [.int i] cw_X5_120 rfl dX5_camelOf_72 (c_X3_get l hlf g _ (x + 14) 6 (cs 0 8 6) (cs 0 6) i ((hW.flat (k := 0) (a := x + 1) (by decide) rfl).row (k := 6) (r := x + 14) (by decide) rfl rfl) (by decide)) ((hW.flat (k := 0) (a := x + 1) (by decide) rfl).row (k := 6) (r := x + 14) (by decide) rfl rfl).1 hM hS hl.1 rfl rfl ⟨Nat.le_of_ble_eq_true rfl, Nat.le_of_ble_eq_true rfl⟩ ⟨Nat.le_of_ble_eq_true rfl, Nat.le_of_ble_eq_true rfl⟩ (Nat.le_of_ble_eq_true rfl) (fun H locs hM hS => ?_)
    exact k_iret hc hr dX5_camelOf_75 hM hS (Nat.le_of_ble_eq_true rfl) (Nat.le_of_ble_eq_true rfl) (by first | (simp only [cmV, cmOk, eq_true q_2_0, eq_false c_6_0, eq_false c_6_1, eq_true c_6_2, not_false_eq_true, not_true_eq_false, and_true, true_and, and_false, false_and, and_self, ↓reduceIte, or_true, true_or, or_self, or_false, false_or]; done) | (simp only [cmV, cmOk, eq_true q_2_0, eq_false c_6_0, eq_false c_6_1, eq_true c_6_2, not_false_eq_true, not_true_eq_false, and_true, true_and, and_false, false_and, and_self, ↓reduceIte, or_true, true_or, or_self, or_false, false_or]; rfl))
  by_cases c_6_3 : w = 3
  · skip
    have e_6 : w.toInt = 3 := by rw [c_6_3]; rfl
    refine lv_tableIn (tgt := 76) hx hb dX5_camelOf_6 (by rw [e_6]; decide) (by rw [e_6]; decide) (by rw [e_6]; rfl) (by decide) ?_
    refine lv_aload_n hx hb dX5_camelOf_76 rfl (lv_at hl 0 rfl) ?_
    refine gt_X5_10 hc dX5_camelOf_77 hM hW.o rfl ?_
    refine lv_iload_n hx hb dX5_camelOf_80 rfl (lv_at hl 1 rfl) ?_
    refine k_V1 hc [.int i] cw_X5_146 rfl dX5_camelOf_81 (c_X0_isLost l hlf g _ (x + 1) (cs 0) i (hW.flat (k := 0) (a := x + 1) (by decide) rfl)) (hW.flat (k := 0) (a := x + 1) (by decide) rfl).o hM hS hl.1 rfl rfl ⟨Nat.le_of_ble_eq_true rfl, Nat.le_of_ble_eq_true rfl⟩ ⟨Nat.le_of_ble_eq_true rfl, Nat.le_of_ble_eq_true rfl⟩ (Nat.le_of_ble_eq_true rfl) (fun H locs hM hS => ?_)
    refine lv_if_eq (tgt := 91) hx hb dX5_camelOf_84 (by decide) (fun c_84 => ?_) (fun c_84 => ?_)
    · skip
      have c_84 := bI_eq.mp c_84
      refine lv_iconst (v := 0) hx hb dX5_camelOf_91 (by decide) ?_
      exact k_iret hc hr dX5_camelOf_92 hM hS (Nat.le_of_ble_eq_true rfl) (Nat.le_of_ble_eq_true rfl) (by first | (simp only [cmV, cmOk, eq_true q_2_0, eq_false c_6_0, eq_false c_6_1, eq_false c_6_2, eq_true c_6_3, eq_false c_84, not_false_eq_true, not_true_eq_false, and_true, true_and, and_false, false_and, and_self, ↓reduceIte, or_true, true_or, or_self, or_false, false_or]; done) | (simp only [cmV, cmOk, eq_true q_2_0, eq_false c_6_0, eq_false c_6_1, eq_false c_6_2, eq_true c_6_3, eq_false c_84, not_false_eq_true, not_true_eq_false, and_true, true_and, and_false, false_and, and_self, ↓reduceIte, or_true, true_or, or_self, or_false, false_or]; rfl))
    · skip
      have c_84 := bI_ne.mp c_84
      refine lv_iconst (v := 1) hx hb dX5_camelOf_87 (by decide) ?_
      refine lv_goto (tgt := 92) hx hb dX5_camelOf_88 (by decide) ?_
      exact k_iret hc hr dX5_camelOf_92 hM hS (Nat.le_of_ble_eq_true rfl) (Nat.le_of_ble_eq_true rfl) (by first | (simp only [cmV, cmOk, eq_true q_2_0, eq_false c_6_0, eq_false c_6_1, eq_false c_6_2, eq_true c_6_3, eq_true c_84, not_false_eq_true, not_true_eq_false, and_true, true_and, and_false, false_and, and_self, ↓reduceIte, or_true, true_or, or_self, or_false, false_or]; done) | (simp only [cmV, cmOk, eq_true q_2_0, eq_false c_6_0, eq_false c_6_1, eq_false c_6_2, eq_true c_6_3, eq_true c_84, not_false_eq_true, not_true_eq_false, and_true, true_and, and_false, false_and, and_self, ↓reduceIte, or_true, true_or, or_self, or_false, false_or]; rfl))
  by_cases c_6_4 : w = 4
  · skip
    have e_6 : w.toInt = 4 := by rw [c_6_4]; rfl
    refine lv_tableIn (tgt := 93) hx hb dX5_camelOf_6 (by rw [e_6]; decide) (by rw [e_6]; decide) (by rw [e_6]; rfl) (by decide) ?_
    refine lv_aload_n hx hb dX5_camelOf_93 rfl (lv_at hl 0 rfl) ?_
    refine gt_X5_10 hc dX5_camelOf_94 hM hW.o rfl ?_
    refine gt_X5_150 hc dX5_camelOf_97 hM (hW.flat (k := 0) (a := x + 1) (by decide) rfl).o rfl ?_
    refine lv_iload_n hx hb dX5_camelOf_100 rfl (lv_at hl 1 rfl) ?_
    refine k_V1 hc [.int i] cw_X5_120 rfl dX5_camelOf_101 (c_X3_get l hlf g _ (x + 16) 6 (cs 0 8 7) (cs 0 7) i ((hW.flat (k := 0) (a := x + 1) (by decide) rfl).row (k := 7) (r := x + 16) (by decide) rfl rfl) (by decide)) ((hW.flat (k := 0) (a := x + 1) (by decide) rfl).row (k := 7) (r := x + 16) (by decide) rfl rfl).1 hM hS hl.1 rfl rfl ⟨Nat.le_of_ble_eq_true rfl, Nat.le_of_ble_eq_true rfl⟩ ⟨Nat.le_of_ble_eq_true rfl, Nat.le_of_ble_eq_true rfl⟩ (Nat.le_of_ble_eq_true rfl) (fun H locs hM hS => ?_)
    exact k_iret hc hr dX5_camelOf_104 hM hS (Nat.le_of_ble_eq_true rfl) (Nat.le_of_ble_eq_true rfl) (by first | (simp only [cmV, cmOk, eq_true q_2_0, eq_false c_6_0, eq_false c_6_1, eq_false c_6_2, eq_false c_6_3, eq_true c_6_4, not_false_eq_true, not_true_eq_false, and_true, true_and, and_false, false_and, and_self, ↓reduceIte, or_true, true_or, or_self, or_false, false_or]; done) | (simp only [cmV, cmOk, eq_true q_2_0, eq_false c_6_0, eq_false c_6_1, eq_false c_6_2, eq_false c_6_3, eq_true c_6_4, not_false_eq_true, not_true_eq_false, and_true, true_and, and_false, false_and, and_self, ↓reduceIte, or_true, true_or, or_self, or_false, false_or]; rfl))
  have t_6 : (w.toInt < 0 ∨ 4 < w.toInt) ∨ (¬ w.toInt < 0 ∧ ¬ 4 < w.toInt ∧ (#[(34 : Int), (46 : Int), (58 : Int), (70 : Int), (87 : Int)] : Array Int)[(w.toInt - 0).toNat]? = some 99) := by
    by_cases h1 : w.toInt < 0
    · exact Or.inl (Or.inl h1)
    by_cases h2 : 4 < w.toInt
    · exact Or.inl (Or.inr h2)
    exact Or.inr ⟨h1, h2, tab_df (n := 5) (exc := [0, 1, 2, 3, 4]) (by decide) h1 h2 (by decide) (exc_c (tab_ne c_6_0 (by decide) h1) (exc_c (tab_ne c_6_1 (by decide) h1) (exc_c (tab_ne c_6_2 (by decide) h1) (exc_c (tab_ne c_6_3 (by decide) h1) (exc_c (tab_ne c_6_4 (by decide) h1) exc_n)))))⟩
  refine k_tabDf (tgt := 105) hx hb dX5_camelOf_6 t_6 (by decide) ?_
  exact k_throw hc hnx th_IllegalArgumentException 14 tx_14 hM hS hl.1 dX5_camelOf_105 dX5_camelOf_108 dX5_camelOf_109 dX5_camelOf_111 dX5_camelOf_114 ⟨Nat.le_of_ble_eq_true rfl, Nat.le_of_ble_eq_true rfl, Nat.le_of_ble_eq_true rfl, Nat.le_of_ble_eq_true rfl⟩ (Nat.le_of_ble_eq_true rfl) (Nat.le_of_ble_eq_true rfl) (by first | (simp only [cmV, cmOk, eq_true q_2_0, eq_false c_6_0, eq_false c_6_1, eq_false c_6_2, eq_false c_6_3, eq_false c_6_4, not_false_eq_true, not_true_eq_false, and_true, true_and, and_false, false_and, and_self, ↓reduceIte, or_true, true_or, or_self, or_false, false_or]; done) | (simp only [cmV, cmOk, eq_true q_2_0, eq_false c_6_0, eq_false c_6_1, eq_false c_6_2, eq_false c_6_3, eq_false c_6_4, not_false_eq_true, not_true_eq_false, and_true, true_and, and_false, false_and, and_self, ↓reduceIte, or_true, true_or, or_self, or_false, false_or]; rfl))
set_option maxHeartbeats 4000000 in
set_option maxRecDepth 100000 in
theorem c_X5_drawnAt (l : Launch) (hlf : l.stackTraces = false) (g : GC) (M : HM) (x : Nat) (cs : CS) (i : Int32) (j : Int32) (hW : ClsAt g M x cs) : KM g l yX5_drawnAt cX5_drawnAt 4 (some .int) 7 3 18 [.ref x, .int i, .int j] M (if rin 10 (cs 0 8 0) i then if hasSh (cs 0) j then if ¬ drawnF (cs 0) i j = -1 then .inl (some (.int (drawnF (cs 0) i j)), M) else .inr ("java/util/NoSuchElementException", M) else .inr ("java/lang/IndexOutOfBoundsException", M) else .inr ("java/lang/IndexOutOfBoundsException", M)) := by
  refine k_meth hlf (by decide) (Nat.le_of_ble_eq_true rfl) fun p e s m below meth c ls hc hr hnx hM hS hl => ?_
  have hc : Cx g p l s m [.ref x, .int i, .int j].toArray meth c cX5_drawnAt 4 RX5 := hc
  have hx := hc.1
  have hb := hc.2.1
  have hl : lv_has ls 4 [(0, .ref x), (1, .int i), (2, .int j)] := hl
  refine lv_aload_n hx hb dX5_drawnAt_0 rfl (lv_at hl 0 rfl) ?_
  refine lv_iload_n hx hb dX5_drawnAt_1 rfl (lv_at hl 1 rfl) ?_
  by_cases q_2_0 : rin 10 (cs 0 8 0) i
  rotate_left 1
  · skip
    have hK := c_X5_needStake l hlf g _ x cs i hW
    rw [if_neg q_2_0] at hK
    refine k_VX hc [.int i] cw_X5_112 rfl dX5_drawnAt_2 hK hW.o hM hS hl.1 rfl rfl ⟨Nat.le_of_ble_eq_true rfl, Nat.le_of_ble_eq_true rfl⟩ ⟨Nat.le_of_ble_eq_true rfl, Nat.le_of_ble_eq_true rfl⟩ (Nat.le_of_ble_eq_true rfl) (fun H locs q9 ce hM hS h1 h2 h3 => ?_)
    exact k_out hc hnx hM hS (Nat.le_of_ble_eq_true rfl) (Nat.le_of_ble_eq_true rfl) h1 h2 h3 (by first | (simp only [eq_false q_2_0, not_false_eq_true, not_true_eq_false, and_true, true_and, and_false, false_and, and_self, ↓reduceIte, or_true, true_or, or_self, or_false, false_or]; done) | (simp only [eq_false q_2_0, not_false_eq_true, not_true_eq_false, and_true, true_and, and_false, false_and, and_self, ↓reduceIte, or_true, true_or, or_self, or_false, false_or]; rfl))
  have hK := c_X5_needStake l hlf g _ x cs i hW
  rw [if_pos q_2_0] at hK
  refine k_V0 hc [.int i] cw_X5_112 rfl dX5_drawnAt_2 hK hW.o hM hS hl.1 rfl rfl ⟨Nat.le_of_ble_eq_true rfl, Nat.le_of_ble_eq_true rfl⟩ ⟨Nat.le_of_ble_eq_true rfl, Nat.le_of_ble_eq_true rfl⟩ (Nat.le_of_ble_eq_true rfl) (fun H locs hM hS => ?_)
  refine lv_aload_n hx hb dX5_drawnAt_5 rfl (lv_at hl 0 rfl) ?_
  refine lv_iload_n hx hb dX5_drawnAt_6 rfl (lv_at hl 2 rfl) ?_
  by_cases q_7_0 : hasSh (cs 0) j
  rotate_left 1
  · skip
    have hK := c_X5_needSheet l hlf g _ x cs j hW
    rw [if_neg q_7_0] at hK
    refine k_VX hc [.int j] cw_X5_160 rfl dX5_drawnAt_7 hK hW.o hM hS hl.1 rfl rfl ⟨Nat.le_of_ble_eq_true rfl, Nat.le_of_ble_eq_true rfl⟩ ⟨Nat.le_of_ble_eq_true rfl, Nat.le_of_ble_eq_true rfl⟩ (Nat.le_of_ble_eq_true rfl) (fun H locs q9 ce hM hS h1 h2 h3 => ?_)
    exact k_out hc hnx hM hS (Nat.le_of_ble_eq_true rfl) (Nat.le_of_ble_eq_true rfl) h1 h2 h3 (by first | (simp only [eq_true q_2_0, eq_false q_7_0, not_false_eq_true, not_true_eq_false, and_true, true_and, and_false, false_and, and_self, ↓reduceIte, or_true, true_or, or_self, or_false, false_or]; done) | (simp only [eq_true q_2_0, eq_false q_7_0, not_false_eq_true, not_true_eq_false, and_true, true_and, and_false, false_and, and_self, ↓reduceIte, or_true, true_or, or_self, or_false, false_or]; rfl))
  have hK := c_X5_needSheet l hlf g _ x cs j hW
  rw [if_pos q_7_0] at hK
  refine k_V0 hc [.int j] cw_X5_160 rfl dX5_drawnAt_7 hK hW.o hM hS hl.1 rfl rfl ⟨Nat.le_of_ble_eq_true rfl, Nat.le_of_ble_eq_true rfl⟩ ⟨Nat.le_of_ble_eq_true rfl, Nat.le_of_ble_eq_true rfl⟩ (Nat.le_of_ble_eq_true rfl) (fun H locs hM hS => ?_)
  refine lv_aload_n hx hb dX5_drawnAt_10 rfl (lv_at hl 0 rfl) ?_
  refine gt_X5_10 hc dX5_drawnAt_11 hM hW.o rfl ?_
  refine lv_iload_n hx hb dX5_drawnAt_14 rfl (lv_at hl 1 rfl) ?_
  refine lv_iload_n hx hb dX5_drawnAt_15 rfl (lv_at hl 2 rfl) ?_
  refine k_V1 hc [.int i, .int j] cw_X5_163 rfl dX5_drawnAt_16 (c_X0_drawnPlace l hlf g _ (x + 1) (cs 0) i j (hW.flat (k := 0) (a := x + 1) (by decide) rfl)) (hW.flat (k := 0) (a := x + 1) (by decide) rfl).o hM hS hl.1 rfl rfl ⟨Nat.le_of_ble_eq_true rfl, Nat.le_of_ble_eq_true rfl⟩ ⟨Nat.le_of_ble_eq_true rfl, Nat.le_of_ble_eq_true rfl⟩ (Nat.le_of_ble_eq_true rfl) (fun H locs hM hS => ?_)
  refine lv_istore_n (lv' := [(3, .int (drawnF (cs 0) i j)), (0, .ref x), (1, .int i), (2, .int j)]) hx hb dX5_drawnAt_19 rfl hl (by decide) rfl (fun ls hl => ?_)
  refine lv_iload_n hx hb dX5_drawnAt_20 rfl (lv_at hl 0 rfl) ?_
  refine lv_iconst (v := (-1)) hx hb dX5_drawnAt_21 (by decide) ?_
  refine lv_icmp_ne (tgt := 35) hx hb dX5_drawnAt_22 (by decide) (fun c_22 => ?_) (fun c_22 => ?_)
  · skip
    refine lv_iload_n hx hb dX5_drawnAt_35 rfl (lv_at hl 0 rfl) ?_
    exact k_iret hc hr dX5_drawnAt_36 hM hS (Nat.le_of_ble_eq_true rfl) (Nat.le_of_ble_eq_true rfl) (by first | (simp only [eq_true q_2_0, eq_true q_7_0, eq_false c_22, not_false_eq_true, not_true_eq_false, and_true, true_and, and_false, false_and, and_self, ↓reduceIte, or_true, true_or, or_self, or_false, false_or]; done) | (simp only [eq_true q_2_0, eq_true q_7_0, eq_false c_22, not_false_eq_true, not_true_eq_false, and_true, true_and, and_false, false_and, and_self, ↓reduceIte, or_true, true_or, or_self, or_false, false_or]; rfl))
  · skip
    exact k_throwN hc hnx 16 tx_16 hM hS hl.1 dX5_drawnAt_25 dX5_drawnAt_28 dX5_drawnAt_29 dX5_drawnAt_31 dX5_drawnAt_34 ⟨Nat.le_of_ble_eq_true rfl, Nat.le_of_ble_eq_true rfl, Nat.le_of_ble_eq_true rfl, Nat.le_of_ble_eq_true rfl⟩ (Nat.le_of_ble_eq_true rfl) (Nat.le_of_ble_eq_true rfl) (by first | (simp only [eq_true q_2_0, eq_true q_7_0, eq_true c_22, not_false_eq_true, not_true_eq_false, and_true, true_and, and_false, false_and, and_self, ↓reduceIte, or_true, true_or, or_self, or_false, false_or]; done) | (simp only [eq_true q_2_0, eq_true q_7_0, eq_true c_22, not_false_eq_true, not_true_eq_false, and_true, true_and, and_false, false_and, and_self, ↓reduceIte, or_true, true_or, or_self, or_false, false_or]; rfl))
set_option maxHeartbeats 4000000 in
set_option maxRecDepth 100000 in
theorem c_X5_wrongBy (l : Launch) (hlf : l.stackTraces = false) (g : GC) (M : HM) (x : Nat) (cs : CS) (i : Int32) (hW : ClsAt g M x cs) : KM g l yX5_wrongBy cX5_wrongBy 5 (some .int) 7 3 18 [.ref x, .int i] M (if hasSh (cs 0) i then .inl (some (.int (wbF (cs 0) i)), M) else .inr ("java/lang/IndexOutOfBoundsException", M)) := by
  refine k_meth hlf (by decide) (Nat.le_of_ble_eq_true rfl) fun p e s m below meth c ls hc hr hnx hM hS hl => ?_
  have hc : Cx g p l s m [.ref x, .int i].toArray meth c cX5_wrongBy 5 RX5 := hc
  have hx := hc.1
  have hb := hc.2.1
  have hl : lv_has ls 5 [(0, .ref x), (1, .int i)] := hl
  refine lv_aload_n hx hb dX5_wrongBy_0 rfl (lv_at hl 0 rfl) ?_
  refine lv_iload_n hx hb dX5_wrongBy_1 rfl (lv_at hl 1 rfl) ?_
  by_cases q_2_0 : hasSh (cs 0) i
  rotate_left 1
  · skip
    have hK := c_X5_needSheet l hlf g _ x cs i hW
    rw [if_neg q_2_0] at hK
    refine k_VX hc [.int i] cw_X5_160 rfl dX5_wrongBy_2 hK hW.o hM hS hl.1 rfl rfl ⟨Nat.le_of_ble_eq_true rfl, Nat.le_of_ble_eq_true rfl⟩ ⟨Nat.le_of_ble_eq_true rfl, Nat.le_of_ble_eq_true rfl⟩ (Nat.le_of_ble_eq_true rfl) (fun H locs q9 ce hM hS h1 h2 h3 => ?_)
    exact k_out hc hnx hM hS (Nat.le_of_ble_eq_true rfl) (Nat.le_of_ble_eq_true rfl) h1 h2 h3 (by first | (simp only [eq_false q_2_0, not_false_eq_true, not_true_eq_false, and_true, true_and, and_false, false_and, and_self, ↓reduceIte, or_true, true_or, or_self, or_false, false_or]; done) | (simp only [eq_false q_2_0, not_false_eq_true, not_true_eq_false, and_true, true_and, and_false, false_and, and_self, ↓reduceIte, or_true, true_or, or_self, or_false, false_or]; rfl))
  have hK := c_X5_needSheet l hlf g _ x cs i hW
  rw [if_pos q_2_0] at hK
  refine k_V0 hc [.int i] cw_X5_160 rfl dX5_wrongBy_2 hK hW.o hM hS hl.1 rfl rfl ⟨Nat.le_of_ble_eq_true rfl, Nat.le_of_ble_eq_true rfl⟩ ⟨Nat.le_of_ble_eq_true rfl, Nat.le_of_ble_eq_true rfl⟩ (Nat.le_of_ble_eq_true rfl) (fun H locs hM hS => ?_)
  refine lv_iconst (v := 0) hx hb dX5_wrongBy_5 (by decide) ?_
  refine lv_istore_n (lv' := [(2, .int 0), (0, .ref x), (1, .int i)]) hx hb dX5_wrongBy_6 rfl hl (by decide) rfl (fun ls hl => ?_)
  refine lv_iconst (v := 0) hx hb dX5_wrongBy_7 (by decide) ?_
  refine lv_istore_n (lv' := [(3, .int 0), (2, .int 0), (0, .ref x), (1, .int i)]) hx hb dX5_wrongBy_8 rfl hl (by decide) rfl (fun ls hl => ?_)
  have lp_9 : ∀ (D k : Nat), ((cs 0 8 0).toNatClampNeg) - k < D → k ≤ (cs 0 8 0).toNatClampNeg → ∀ (ls : Array Slot) (H : Heap) (locs : List Loc), hR g M H → va_S (gA g) s.heap H locs → lv_has ls 5 [(3, .int (nI k)), (2, .int (itr (wbS (cs 0) i) 0 k)), (0, .ref x), (1, .int i)] → W p l e (rmOf 7 3 18) s m [.ref x, .int i].toArray below meth c H locs 1 6 (vx_MQ below (KQ g (if hasSh (cs 0) i then .inl (some (.int (wbF (cs 0) i)), M) else .inr ("java/lang/IndexOutOfBoundsException", M))) (KX g (if hasSh (cs 0) i then .inl (some (.int (wbF (cs 0) i)), M) else .inr ("java/lang/IndexOutOfBoundsException", M))) [.ref x, .int i].toArray s 3 18 (gA g)) (F0 m 9 ls []) := by
    intro D
    induction D with
    | zero => intro k hD; exact absurd hD (Nat.not_lt_zero _)
    | succ D ih_9 =>
      intro k hD hk ls H locs hM hS hl
      refine lv_iload_n hx hb dX5_wrongBy_9 rfl (lv_at hl 0 rfl) ?_
      refine lv_aload_n hx hb dX5_wrongBy_10 rfl (lv_at hl 2 rfl) ?_
      refine gt_X5_10 hc dX5_wrongBy_11 hM hW.o rfl ?_
      refine gt_X5_116 hc dX5_wrongBy_14 hM (hW.flat (k := 0) (a := x + 1) (by decide) rfl).o rfl ?_
      refine k_V1 hc [] cw_X5_171 rfl dX5_wrongBy_17 (c_X3_size l hlf g _ (x + 2) 10 (cs 0 8 0) (cs 0 0) ((hW.flat (k := 0) (a := x + 1) (by decide) rfl).row (k := 0) (r := x + 2) (by decide) rfl rfl)) ((hW.flat (k := 0) (a := x + 1) (by decide) rfl).row (k := 0) (r := x + 2) (by decide) rfl rfl).1 hM hS hl.1 rfl rfl ⟨Nat.le_of_ble_eq_true rfl, Nat.le_of_ble_eq_true rfl⟩ ⟨Nat.le_of_ble_eq_true rfl, Nat.le_of_ble_eq_true rfl⟩ (Nat.le_of_ble_eq_true rfl) (fun H locs hM hS => ?_)
      refine lv_icmp_ge (tgt := 70) hx hb dX5_wrongBy_20 (by decide) (fun c_20 => ?_) (fun c_20 => ?_)
      · skip
        have c_20 := (k_le (by have := k_clamp_lt (cs 0 8 0); omega)).mp c_20
        refine lv_iload_n hx hb dX5_wrongBy_70 rfl (lv_at hl 1 rfl) ?_
        exact k_iret hc hr dX5_wrongBy_71 hM hS (Nat.le_of_ble_eq_true rfl) (Nat.le_of_ble_eq_true rfl) (by rw [wbF, show k = (cs 0 8 0).toNatClampNeg by omega, if_pos q_2_0])
      · skip
        have c_20 : ¬ (cs 0 8 0).toNatClampNeg ≤ k := fun h => c_20 ((k_le (by have := k_clamp_lt (cs 0 8 0); omega)).mpr h)
        refine lv_aload_n hx hb dX5_wrongBy_23 rfl (lv_at hl 2 rfl) ?_
        refine gt_X5_10 hc dX5_wrongBy_24 hM hW.o rfl ?_
        refine lv_iload_n hx hb dX5_wrongBy_27 rfl (lv_at hl 0 rfl) ?_
        refine lv_iload_n hx hb dX5_wrongBy_28 rfl (lv_at hl 3 rfl) ?_
        refine k_V1 hc [.int (nI k), .int i] cw_X5_163 rfl dX5_wrongBy_29 (c_X0_drawnPlace l hlf g _ (x + 1) (cs 0) (nI k) i (hW.flat (k := 0) (a := x + 1) (by decide) rfl)) (hW.flat (k := 0) (a := x + 1) (by decide) rfl).o hM hS hl.1 rfl rfl ⟨Nat.le_of_ble_eq_true rfl, Nat.le_of_ble_eq_true rfl⟩ ⟨Nat.le_of_ble_eq_true rfl, Nat.le_of_ble_eq_true rfl⟩ (Nat.le_of_ble_eq_true rfl) (fun H locs hM hS => ?_)
        refine lv_istore (lv' := [(4, .int (drawnF (cs 0) (nI k) i)), (3, .int (nI k)), (2, .int (itr (wbS (cs 0) i) 0 k)), (0, .ref x), (1, .int i)]) hx hb dX5_wrongBy_32 hl (by decide) rfl (fun ls hl => ?_)
        refine lv_iload_n hx hb dX5_wrongBy_34 rfl (lv_at hl 2 rfl) ?_
        refine lv_iload hx hb dX5_wrongBy_35 (lv_at hl 0 rfl) ?_
        refine lv_iconst (v := (-1)) hx hb dX5_wrongBy_37 (by decide) ?_
        refine lv_icmp_ne (tgt := 45) hx hb dX5_wrongBy_38 (by decide) (fun c_38 => ?_) (fun c_38 => ?_)
        · skip
          refine lv_iload hx hb dX5_wrongBy_45 (lv_at hl 0 rfl) ?_
          refine lv_aload_n hx hb dX5_wrongBy_47 rfl (lv_at hl 3 rfl) ?_
          refine gt_X5_10 hc dX5_wrongBy_48 hM hW.o rfl ?_
          refine gt_X5_116 hc dX5_wrongBy_51 hM (hW.flat (k := 0) (a := x + 1) (by decide) rfl).o rfl ?_
          refine lv_iload_n hx hb dX5_wrongBy_54 rfl (lv_at hl 1 rfl) ?_
          refine k_V1 hc [.int (nI k)] cw_X5_120 rfl dX5_wrongBy_55 (c_X3_get l hlf g _ (x + 2) 10 (cs 0 8 0) (cs 0 0) (nI k) ((hW.flat (k := 0) (a := x + 1) (by decide) rfl).row (k := 0) (r := x + 2) (by decide) rfl rfl) (by decide)) ((hW.flat (k := 0) (a := x + 1) (by decide) rfl).row (k := 0) (r := x + 2) (by decide) rfl rfl).1 hM hS hl.1 rfl rfl ⟨Nat.le_of_ble_eq_true rfl, Nat.le_of_ble_eq_true rfl⟩ ⟨Nat.le_of_ble_eq_true rfl, Nat.le_of_ble_eq_true rfl⟩ (Nat.le_of_ble_eq_true rfl) (fun H locs hM hS => ?_)
          refine lv_isub hx hb dX5_wrongBy_58 ?_
          refine k_abs hc q_X5_174 dX5_wrongBy_59 hl.1 ⟨Nat.le_of_ble_eq_true rfl, Nat.le_of_ble_eq_true rfl, Nat.le_of_ble_eq_true rfl, Nat.le_of_ble_eq_true rfl⟩ ?_
          refine lv_iadd hx hb dX5_wrongBy_62 ?_
          refine lv_istore_n (lv' := [(2, .int ((itr (wbS (cs 0) i) 0 k) + (absI ((drawnF (cs 0) (nI k) i) - (rget 10 (cs 0 8 0) (cs 0 0) (nI k)))))), (4, .int (drawnF (cs 0) (nI k) i)), (3, .int (nI k)), (0, .ref x), (1, .int i)]) hx hb dX5_wrongBy_63 rfl hl (by decide) rfl (fun ls hl => ?_)
          refine lv_iinc (v := (nI (k + 1))) (lv' := [(3, .int (nI (k + 1))), (2, .int ((itr (wbS (cs 0) i) 0 k) + (absI ((drawnF (cs 0) (nI k) i) - (rget 10 (cs 0 8 0) (cs 0 0) (nI k)))))), (4, .int (drawnF (cs 0) (nI k) i)), (0, .ref x), (1, .int i)]) hx hb dX5_wrongBy_64 hl (k := 2) rfl (k_inc1 _) (by decide) rfl (fun ls hl => ?_)
          refine lv_goto (tgt := 9) hx hb dX5_wrongBy_67 (by decide) ?_
          have z_2 : ((itr (wbS (cs 0) i) 0 k) + (absI ((drawnF (cs 0) (nI k) i) - (rget 10 (cs 0 8 0) (cs 0 0) (nI k))))) = (itr (wbS (cs 0) i) 0 (k + 1)) := (by rw [itr_s]; simp only [wbS, eq_true q_2_0, eq_false c_20, eq_false c_38, not_false_eq_true, not_true_eq_false, and_true, true_and, and_false, false_and, and_self, ↓reduceIte, or_true, true_or, or_self, or_false, false_or])
          have hl := lv_chg (lv_sub hl [1, 0, 2, 3, 4] rfl) z_2
          exact ih_9 (k + 1) (by omega) (by omega) ls _ _ hM hS (lv_sub hl [1, 0, 3, 4] rfl)
        · skip
          refine lv_iconst (v := 0) hx hb dX5_wrongBy_41 (by decide) ?_
          refine lv_goto (tgt := 62) hx hb dX5_wrongBy_42 (by decide) ?_
          refine lv_iadd hx hb dX5_wrongBy_62 ?_
          refine lv_istore_n (lv' := [(2, .int ((itr (wbS (cs 0) i) 0 k) + 0)), (4, .int (drawnF (cs 0) (nI k) i)), (3, .int (nI k)), (0, .ref x), (1, .int i)]) hx hb dX5_wrongBy_63 rfl hl (by decide) rfl (fun ls hl => ?_)
          refine lv_iinc (v := (nI (k + 1))) (lv' := [(3, .int (nI (k + 1))), (2, .int ((itr (wbS (cs 0) i) 0 k) + 0)), (4, .int (drawnF (cs 0) (nI k) i)), (0, .ref x), (1, .int i)]) hx hb dX5_wrongBy_64 hl (k := 2) rfl (k_inc1 _) (by decide) rfl (fun ls hl => ?_)
          refine lv_goto (tgt := 9) hx hb dX5_wrongBy_67 (by decide) ?_
          have z_2 : ((itr (wbS (cs 0) i) 0 k) + 0) = (itr (wbS (cs 0) i) 0 (k + 1)) := (by rw [itr_s]; simp only [wbS, eq_true q_2_0, eq_false c_20, eq_true c_38, not_false_eq_true, not_true_eq_false, and_true, true_and, and_false, false_and, and_self, ↓reduceIte, or_true, true_or, or_self, or_false, false_or])
          have hl := lv_chg (lv_sub hl [1, 0, 2, 3, 4] rfl) z_2
          exact ih_9 (k + 1) (by omega) (by omega) ls _ _ hM hS (lv_sub hl [1, 0, 3, 4] rfl)
  have z_3 : 0 = (nI 0) := rfl
  have hl := lv_chg (lv_sub hl [0, 1, 2, 3] rfl) z_3
  have z_2 : 0 = (itr (wbS (cs 0) i) 0 0) := rfl
  have hl := lv_chg (lv_sub hl [1, 0, 2, 3] rfl) z_2
  exact lp_9 ((cs 0 8 0).toNatClampNeg + 1) 0 (by omega) (by omega) ls _ _ hM hS (lv_sub hl [1, 0, 2, 3] rfl)
set_option maxHeartbeats 4000000 in
set_option maxRecDepth 100000 in
theorem c_X5_seems (l : Launch) (hlf : l.stackTraces = false) (g : GC) (M : HM) (x : Nat) (cs : CS) (i : Int32) (j : Int32) (hW : ClsAt g M x cs) : KM g l yX5_seems cX5_seems 3 (some .int) 8 3 18 [.ref x, .int i, .int j] M (if rin 10 (cs 0 8 0) i then if rin 4 (cs 0 8 1) j then .inl (some (.int (seemF (cs 0) i j)), M) else .inr ("java/lang/IndexOutOfBoundsException", M) else .inr ("java/lang/IndexOutOfBoundsException", M)) := by
  refine k_meth hlf (by decide) (Nat.le_of_ble_eq_true rfl) fun p e s m below meth c ls hc hr hnx hM hS hl => ?_
  have hc : Cx g p l s m [.ref x, .int i, .int j].toArray meth c cX5_seems 3 RX5 := hc
  have hx := hc.1
  have hb := hc.2.1
  have hl : lv_has ls 3 [(0, .ref x), (1, .int i), (2, .int j)] := hl
  refine lv_aload_n hx hb dX5_seems_0 rfl (lv_at hl 0 rfl) ?_
  refine lv_iload_n hx hb dX5_seems_1 rfl (lv_at hl 1 rfl) ?_
  by_cases q_2_0 : rin 10 (cs 0 8 0) i
  rotate_left 1
  · skip
    have hK := c_X5_needStake l hlf g _ x cs i hW
    rw [if_neg q_2_0] at hK
    refine k_VX hc [.int i] cw_X5_112 rfl dX5_seems_2 hK hW.o hM hS hl.1 rfl rfl ⟨Nat.le_of_ble_eq_true rfl, Nat.le_of_ble_eq_true rfl⟩ ⟨Nat.le_of_ble_eq_true rfl, Nat.le_of_ble_eq_true rfl⟩ (Nat.le_of_ble_eq_true rfl) (fun H locs q9 ce hM hS h1 h2 h3 => ?_)
    exact k_out hc hnx hM hS (Nat.le_of_ble_eq_true rfl) (Nat.le_of_ble_eq_true rfl) h1 h2 h3 (by first | (simp only [eq_false q_2_0, not_false_eq_true, not_true_eq_false, and_true, true_and, and_false, false_and, and_self, ↓reduceIte, or_true, true_or, or_self, or_false, false_or]; done) | (simp only [eq_false q_2_0, not_false_eq_true, not_true_eq_false, and_true, true_and, and_false, false_and, and_self, ↓reduceIte, or_true, true_or, or_self, or_false, false_or]; rfl))
  have hK := c_X5_needStake l hlf g _ x cs i hW
  rw [if_pos q_2_0] at hK
  refine k_V0 hc [.int i] cw_X5_112 rfl dX5_seems_2 hK hW.o hM hS hl.1 rfl rfl ⟨Nat.le_of_ble_eq_true rfl, Nat.le_of_ble_eq_true rfl⟩ ⟨Nat.le_of_ble_eq_true rfl, Nat.le_of_ble_eq_true rfl⟩ (Nat.le_of_ble_eq_true rfl) (fun H locs hM hS => ?_)
  refine lv_aload_n hx hb dX5_seems_5 rfl (lv_at hl 0 rfl) ?_
  refine lv_iload_n hx hb dX5_seems_6 rfl (lv_at hl 2 rfl) ?_
  by_cases q_7_0 : rin 4 (cs 0 8 1) j
  rotate_left 1
  · skip
    have hK := c_X5_needPost l hlf g _ x cs j hW
    rw [if_neg q_7_0] at hK
    refine k_VX hc [.int j] cw_X5_125 rfl dX5_seems_7 hK hW.o hM hS hl.1 rfl rfl ⟨Nat.le_of_ble_eq_true rfl, Nat.le_of_ble_eq_true rfl⟩ ⟨Nat.le_of_ble_eq_true rfl, Nat.le_of_ble_eq_true rfl⟩ (Nat.le_of_ble_eq_true rfl) (fun H locs q9 ce hM hS h1 h2 h3 => ?_)
    exact k_out hc hnx hM hS (Nat.le_of_ble_eq_true rfl) (Nat.le_of_ble_eq_true rfl) h1 h2 h3 (by first | (simp only [eq_true q_2_0, eq_false q_7_0, not_false_eq_true, not_true_eq_false, and_true, true_and, and_false, false_and, and_self, ↓reduceIte, or_true, true_or, or_self, or_false, false_or]; done) | (simp only [eq_true q_2_0, eq_false q_7_0, not_false_eq_true, not_true_eq_false, and_true, true_and, and_false, false_and, and_self, ↓reduceIte, or_true, true_or, or_self, or_false, false_or]; rfl))
  have hK := c_X5_needPost l hlf g _ x cs j hW
  rw [if_pos q_7_0] at hK
  refine k_V0 hc [.int j] cw_X5_125 rfl dX5_seems_7 hK hW.o hM hS hl.1 rfl rfl ⟨Nat.le_of_ble_eq_true rfl, Nat.le_of_ble_eq_true rfl⟩ ⟨Nat.le_of_ble_eq_true rfl, Nat.le_of_ble_eq_true rfl⟩ (Nat.le_of_ble_eq_true rfl) (fun H locs hM hS => ?_)
  refine lv_aload_n hx hb dX5_seems_10 rfl (lv_at hl 0 rfl) ?_
  refine gt_X5_10 hc dX5_seems_11 hM hW.o rfl ?_
  refine lv_iload_n hx hb dX5_seems_14 rfl (lv_at hl 1 rfl) ?_
  refine lv_iload_n hx hb dX5_seems_15 rfl (lv_at hl 2 rfl) ?_
  refine k_V1 hc [.int i, .int j] cw_X5_179 rfl dX5_seems_16 (c_X0_seemingPlace l hlf g _ (x + 1) (cs 0) i j (hW.flat (k := 0) (a := x + 1) (by decide) rfl)) (hW.flat (k := 0) (a := x + 1) (by decide) rfl).o hM hS hl.1 rfl rfl ⟨Nat.le_of_ble_eq_true rfl, Nat.le_of_ble_eq_true rfl⟩ ⟨Nat.le_of_ble_eq_true rfl, Nat.le_of_ble_eq_true rfl⟩ (Nat.le_of_ble_eq_true rfl) (fun H locs hM hS => ?_)
  exact k_iret hc hr dX5_seems_19 hM hS (Nat.le_of_ble_eq_true rfl) (Nat.le_of_ble_eq_true rfl) (by first | (simp only [eq_true q_2_0, eq_true q_7_0, not_false_eq_true, not_true_eq_false, and_true, true_and, and_false, false_and, and_self, ↓reduceIte, or_true, true_or, or_self, or_false, false_or]; done) | (simp only [eq_true q_2_0, eq_true q_7_0, not_false_eq_true, not_true_eq_false, and_true, true_and, and_false, false_and, and_self, ↓reduceIte, or_true, true_or, or_self, or_false, false_or]; rfl))
set_option maxHeartbeats 4000000 in
set_option maxRecDepth 100000 in
theorem c_X5_seemsAgain (l : Launch) (hlf : l.stackTraces = false) (g : GC) (M : HM) (x : Nat) (cs : CS) (i : Int32) (j : Int32) (hW : ClsAt g M x cs) : KM g l yX5_seemsAgain cX5_seemsAgain 3 (some .int) 8 3 18 [.ref x, .int i, .int j] M (if rin 10 (cs 0 8 0) i then if rin 4 (cs 0 8 1) j then .inl (some (.int (walkF (cs 0) i j)), M) else .inr ("java/lang/IndexOutOfBoundsException", M) else .inr ("java/lang/IndexOutOfBoundsException", M)) := by
  refine k_meth hlf (by decide) (Nat.le_of_ble_eq_true rfl) fun p e s m below meth c ls hc hr hnx hM hS hl => ?_
  have hc : Cx g p l s m [.ref x, .int i, .int j].toArray meth c cX5_seemsAgain 3 RX5 := hc
  have hx := hc.1
  have hb := hc.2.1
  have hl : lv_has ls 3 [(0, .ref x), (1, .int i), (2, .int j)] := hl
  refine lv_aload_n hx hb dX5_seemsAgain_0 rfl (lv_at hl 0 rfl) ?_
  refine lv_iload_n hx hb dX5_seemsAgain_1 rfl (lv_at hl 1 rfl) ?_
  by_cases q_2_0 : rin 10 (cs 0 8 0) i
  rotate_left 1
  · skip
    have hK := c_X5_needStake l hlf g _ x cs i hW
    rw [if_neg q_2_0] at hK
    refine k_VX hc [.int i] cw_X5_112 rfl dX5_seemsAgain_2 hK hW.o hM hS hl.1 rfl rfl ⟨Nat.le_of_ble_eq_true rfl, Nat.le_of_ble_eq_true rfl⟩ ⟨Nat.le_of_ble_eq_true rfl, Nat.le_of_ble_eq_true rfl⟩ (Nat.le_of_ble_eq_true rfl) (fun H locs q9 ce hM hS h1 h2 h3 => ?_)
    exact k_out hc hnx hM hS (Nat.le_of_ble_eq_true rfl) (Nat.le_of_ble_eq_true rfl) h1 h2 h3 (by first | (simp only [eq_false q_2_0, not_false_eq_true, not_true_eq_false, and_true, true_and, and_false, false_and, and_self, ↓reduceIte, or_true, true_or, or_self, or_false, false_or]; done) | (simp only [eq_false q_2_0, not_false_eq_true, not_true_eq_false, and_true, true_and, and_false, false_and, and_self, ↓reduceIte, or_true, true_or, or_self, or_false, false_or]; rfl))
  have hK := c_X5_needStake l hlf g _ x cs i hW
  rw [if_pos q_2_0] at hK
  refine k_V0 hc [.int i] cw_X5_112 rfl dX5_seemsAgain_2 hK hW.o hM hS hl.1 rfl rfl ⟨Nat.le_of_ble_eq_true rfl, Nat.le_of_ble_eq_true rfl⟩ ⟨Nat.le_of_ble_eq_true rfl, Nat.le_of_ble_eq_true rfl⟩ (Nat.le_of_ble_eq_true rfl) (fun H locs hM hS => ?_)
  refine lv_aload_n hx hb dX5_seemsAgain_5 rfl (lv_at hl 0 rfl) ?_
  refine lv_iload_n hx hb dX5_seemsAgain_6 rfl (lv_at hl 2 rfl) ?_
  by_cases q_7_0 : rin 4 (cs 0 8 1) j
  rotate_left 1
  · skip
    have hK := c_X5_needPost l hlf g _ x cs j hW
    rw [if_neg q_7_0] at hK
    refine k_VX hc [.int j] cw_X5_125 rfl dX5_seemsAgain_7 hK hW.o hM hS hl.1 rfl rfl ⟨Nat.le_of_ble_eq_true rfl, Nat.le_of_ble_eq_true rfl⟩ ⟨Nat.le_of_ble_eq_true rfl, Nat.le_of_ble_eq_true rfl⟩ (Nat.le_of_ble_eq_true rfl) (fun H locs q9 ce hM hS h1 h2 h3 => ?_)
    exact k_out hc hnx hM hS (Nat.le_of_ble_eq_true rfl) (Nat.le_of_ble_eq_true rfl) h1 h2 h3 (by first | (simp only [eq_true q_2_0, eq_false q_7_0, not_false_eq_true, not_true_eq_false, and_true, true_and, and_false, false_and, and_self, ↓reduceIte, or_true, true_or, or_self, or_false, false_or]; done) | (simp only [eq_true q_2_0, eq_false q_7_0, not_false_eq_true, not_true_eq_false, and_true, true_and, and_false, false_and, and_self, ↓reduceIte, or_true, true_or, or_self, or_false, false_or]; rfl))
  have hK := c_X5_needPost l hlf g _ x cs j hW
  rw [if_pos q_7_0] at hK
  refine k_V0 hc [.int j] cw_X5_125 rfl dX5_seemsAgain_7 hK hW.o hM hS hl.1 rfl rfl ⟨Nat.le_of_ble_eq_true rfl, Nat.le_of_ble_eq_true rfl⟩ ⟨Nat.le_of_ble_eq_true rfl, Nat.le_of_ble_eq_true rfl⟩ (Nat.le_of_ble_eq_true rfl) (fun H locs hM hS => ?_)
  refine lv_aload_n hx hb dX5_seemsAgain_10 rfl (lv_at hl 0 rfl) ?_
  refine gt_X5_10 hc dX5_seemsAgain_11 hM hW.o rfl ?_
  refine lv_iload_n hx hb dX5_seemsAgain_14 rfl (lv_at hl 1 rfl) ?_
  refine lv_iload_n hx hb dX5_seemsAgain_15 rfl (lv_at hl 2 rfl) ?_
  refine k_V1 hc [.int i, .int j] cw_X5_182 rfl dX5_seemsAgain_16 (c_X0_walkedPlace l hlf g _ (x + 1) (cs 0) i j (hW.flat (k := 0) (a := x + 1) (by decide) rfl)) (hW.flat (k := 0) (a := x + 1) (by decide) rfl).o hM hS hl.1 rfl rfl ⟨Nat.le_of_ble_eq_true rfl, Nat.le_of_ble_eq_true rfl⟩ ⟨Nat.le_of_ble_eq_true rfl, Nat.le_of_ble_eq_true rfl⟩ (Nat.le_of_ble_eq_true rfl) (fun H locs hM hS => ?_)
  exact k_iret hc hr dX5_seemsAgain_19 hM hS (Nat.le_of_ble_eq_true rfl) (Nat.le_of_ble_eq_true rfl) (by first | (simp only [eq_true q_2_0, eq_true q_7_0, not_false_eq_true, not_true_eq_false, and_true, true_and, and_false, false_and, and_self, ↓reduceIte, or_true, true_or, or_self, or_false, false_or]; done) | (simp only [eq_true q_2_0, eq_true q_7_0, not_false_eq_true, not_true_eq_false, and_true, true_and, and_false, false_and, and_self, ↓reduceIte, or_true, true_or, or_self, or_false, false_or]; rfl))
set_option maxHeartbeats 4000000 in
set_option maxRecDepth 100000 in
theorem c_X5_shimmers (l : Launch) (hlf : l.stackTraces = false) (g : GC) (M : HM) (x : Nat) (cs : CS) (i : Int32) (j : Int32) (hW : ClsAt g M x cs) : KM g l yX5_shimmers cX5_shimmers 3 (some .boolean) 7 3 18 [.ref x, .int i, .int j] M (if rin 10 (cs 0 8 0) i then if rin 4 (cs 0 8 1) j then .inl (some (.int (bI (shimF (cs 0) i j (hNow (cs 0))))), M) else .inr ("java/lang/IndexOutOfBoundsException", M) else .inr ("java/lang/IndexOutOfBoundsException", M)) := by
  refine k_meth hlf (by decide) (Nat.le_of_ble_eq_true rfl) fun p e s m below meth c ls hc hr hnx hM hS hl => ?_
  have hc : Cx g p l s m [.ref x, .int i, .int j].toArray meth c cX5_shimmers 3 RX5 := hc
  have hx := hc.1
  have hb := hc.2.1
  have hl : lv_has ls 3 [(0, .ref x), (1, .int i), (2, .int j)] := hl
  refine lv_aload_n hx hb dX5_shimmers_0 rfl (lv_at hl 0 rfl) ?_
  refine lv_iload_n hx hb dX5_shimmers_1 rfl (lv_at hl 1 rfl) ?_
  by_cases q_2_0 : rin 10 (cs 0 8 0) i
  rotate_left 1
  · skip
    have hK := c_X5_needStake l hlf g _ x cs i hW
    rw [if_neg q_2_0] at hK
    refine k_VX hc [.int i] cw_X5_112 rfl dX5_shimmers_2 hK hW.o hM hS hl.1 rfl rfl ⟨Nat.le_of_ble_eq_true rfl, Nat.le_of_ble_eq_true rfl⟩ ⟨Nat.le_of_ble_eq_true rfl, Nat.le_of_ble_eq_true rfl⟩ (Nat.le_of_ble_eq_true rfl) (fun H locs q9 ce hM hS h1 h2 h3 => ?_)
    exact k_out hc hnx hM hS (Nat.le_of_ble_eq_true rfl) (Nat.le_of_ble_eq_true rfl) h1 h2 h3 (by first | (simp only [eq_false q_2_0, not_false_eq_true, not_true_eq_false, and_true, true_and, and_false, false_and, and_self, ↓reduceIte, or_true, true_or, or_self, or_false, false_or]; done) | (simp only [eq_false q_2_0, not_false_eq_true, not_true_eq_false, and_true, true_and, and_false, false_and, and_self, ↓reduceIte, or_true, true_or, or_self, or_false, false_or]; rfl))
  have hK := c_X5_needStake l hlf g _ x cs i hW
  rw [if_pos q_2_0] at hK
  refine k_V0 hc [.int i] cw_X5_112 rfl dX5_shimmers_2 hK hW.o hM hS hl.1 rfl rfl ⟨Nat.le_of_ble_eq_true rfl, Nat.le_of_ble_eq_true rfl⟩ ⟨Nat.le_of_ble_eq_true rfl, Nat.le_of_ble_eq_true rfl⟩ (Nat.le_of_ble_eq_true rfl) (fun H locs hM hS => ?_)
  refine lv_aload_n hx hb dX5_shimmers_5 rfl (lv_at hl 0 rfl) ?_
  refine lv_iload_n hx hb dX5_shimmers_6 rfl (lv_at hl 2 rfl) ?_
  by_cases q_7_0 : rin 4 (cs 0 8 1) j
  rotate_left 1
  · skip
    have hK := c_X5_needPost l hlf g _ x cs j hW
    rw [if_neg q_7_0] at hK
    refine k_VX hc [.int j] cw_X5_125 rfl dX5_shimmers_7 hK hW.o hM hS hl.1 rfl rfl ⟨Nat.le_of_ble_eq_true rfl, Nat.le_of_ble_eq_true rfl⟩ ⟨Nat.le_of_ble_eq_true rfl, Nat.le_of_ble_eq_true rfl⟩ (Nat.le_of_ble_eq_true rfl) (fun H locs q9 ce hM hS h1 h2 h3 => ?_)
    exact k_out hc hnx hM hS (Nat.le_of_ble_eq_true rfl) (Nat.le_of_ble_eq_true rfl) h1 h2 h3 (by first | (simp only [eq_true q_2_0, eq_false q_7_0, not_false_eq_true, not_true_eq_false, and_true, true_and, and_false, false_and, and_self, ↓reduceIte, or_true, true_or, or_self, or_false, false_or]; done) | (simp only [eq_true q_2_0, eq_false q_7_0, not_false_eq_true, not_true_eq_false, and_true, true_and, and_false, false_and, and_self, ↓reduceIte, or_true, true_or, or_self, or_false, false_or]; rfl))
  have hK := c_X5_needPost l hlf g _ x cs j hW
  rw [if_pos q_7_0] at hK
  refine k_V0 hc [.int j] cw_X5_125 rfl dX5_shimmers_7 hK hW.o hM hS hl.1 rfl rfl ⟨Nat.le_of_ble_eq_true rfl, Nat.le_of_ble_eq_true rfl⟩ ⟨Nat.le_of_ble_eq_true rfl, Nat.le_of_ble_eq_true rfl⟩ (Nat.le_of_ble_eq_true rfl) (fun H locs hM hS => ?_)
  refine lv_aload_n hx hb dX5_shimmers_10 rfl (lv_at hl 0 rfl) ?_
  refine gt_X5_10 hc dX5_shimmers_11 hM hW.o rfl ?_
  refine lv_iload_n hx hb dX5_shimmers_14 rfl (lv_at hl 1 rfl) ?_
  refine lv_iload_n hx hb dX5_shimmers_15 rfl (lv_at hl 2 rfl) ?_
  refine lv_aload_n hx hb dX5_shimmers_16 rfl (lv_at hl 0 rfl) ?_
  refine gt_X5_10 hc dX5_shimmers_17 hM hW.o rfl ?_
  refine k_V1 hc [] cw_X5_185 rfl dX5_shimmers_20 (c_X0_heatNow l hlf g _ (x + 1) (cs 0) (hW.flat (k := 0) (a := x + 1) (by decide) rfl)) (hW.flat (k := 0) (a := x + 1) (by decide) rfl).o hM hS hl.1 rfl rfl ⟨Nat.le_of_ble_eq_true rfl, Nat.le_of_ble_eq_true rfl⟩ ⟨Nat.le_of_ble_eq_true rfl, Nat.le_of_ble_eq_true rfl⟩ (Nat.le_of_ble_eq_true rfl) (fun H locs hM hS => ?_)
  refine k_V1 hc [.int i, .int j, .int (hNow (cs 0))] cw_X5_188 rfl dX5_shimmers_23 (c_X0_isShimmering l hlf g _ (x + 1) (cs 0) i j (hNow (cs 0)) (hW.flat (k := 0) (a := x + 1) (by decide) rfl)) (hW.flat (k := 0) (a := x + 1) (by decide) rfl).o hM hS hl.1 rfl rfl ⟨Nat.le_of_ble_eq_true rfl, Nat.le_of_ble_eq_true rfl⟩ ⟨Nat.le_of_ble_eq_true rfl, Nat.le_of_ble_eq_true rfl⟩ (Nat.le_of_ble_eq_true rfl) (fun H locs hM hS => ?_)
  exact k_zret hc hr dX5_shimmers_26 hM hS bI_n (Nat.le_of_ble_eq_true rfl) (Nat.le_of_ble_eq_true rfl) (by first | (simp only [eq_true q_2_0, eq_true q_7_0, not_false_eq_true, not_true_eq_false, and_true, true_and, and_false, false_and, and_self, ↓reduceIte, or_true, true_or, or_self, or_false, false_or]; done) | (simp only [eq_true q_2_0, eq_true q_7_0, not_false_eq_true, not_true_eq_false, and_true, true_and, and_false, false_and, and_self, ↓reduceIte, or_true, true_or, or_self, or_false, false_or]; rfl))
set_option maxHeartbeats 4000000 in
set_option maxRecDepth 100000 in
theorem c_X5_bestPost (l : Launch) (hlf : l.stackTraces = false) (g : GC) (M : HM) (x : Nat) (cs : CS) (i : Int32) (hW : ClsAt g M x cs) : KM g l yX5_bestPost cX5_bestPost 3 (some .int) 10 3 18 [.ref x, .int i] M (if rin 10 (cs 0 8 0) i then if ¬ bestF (cs 0) i = -1 then .inl (some (.int (bestF (cs 0) i)), M) else .inr ("java/util/NoSuchElementException", M) else .inr ("java/lang/IndexOutOfBoundsException", M)) := by
  refine k_meth hlf (by decide) (Nat.le_of_ble_eq_true rfl) fun p e s m below meth c ls hc hr hnx hM hS hl => ?_
  have hc : Cx g p l s m [.ref x, .int i].toArray meth c cX5_bestPost 3 RX5 := hc
  have hx := hc.1
  have hb := hc.2.1
  have hl : lv_has ls 3 [(0, .ref x), (1, .int i)] := hl
  refine lv_aload_n hx hb dX5_bestPost_0 rfl (lv_at hl 0 rfl) ?_
  refine lv_iload_n hx hb dX5_bestPost_1 rfl (lv_at hl 1 rfl) ?_
  by_cases q_2_0 : rin 10 (cs 0 8 0) i
  rotate_left 1
  · skip
    have hK := c_X5_needStake l hlf g _ x cs i hW
    rw [if_neg q_2_0] at hK
    refine k_VX hc [.int i] cw_X5_112 rfl dX5_bestPost_2 hK hW.o hM hS hl.1 rfl rfl ⟨Nat.le_of_ble_eq_true rfl, Nat.le_of_ble_eq_true rfl⟩ ⟨Nat.le_of_ble_eq_true rfl, Nat.le_of_ble_eq_true rfl⟩ (Nat.le_of_ble_eq_true rfl) (fun H locs q9 ce hM hS h1 h2 h3 => ?_)
    exact k_out hc hnx hM hS (Nat.le_of_ble_eq_true rfl) (Nat.le_of_ble_eq_true rfl) h1 h2 h3 (by first | (simp only [eq_false q_2_0, not_false_eq_true, not_true_eq_false, and_true, true_and, and_false, false_and, and_self, ↓reduceIte, or_true, true_or, or_self, or_false, false_or]; done) | (simp only [eq_false q_2_0, not_false_eq_true, not_true_eq_false, and_true, true_and, and_false, false_and, and_self, ↓reduceIte, or_true, true_or, or_self, or_false, false_or]; rfl))
  have hK := c_X5_needStake l hlf g _ x cs i hW
  rw [if_pos q_2_0] at hK
  refine k_V0 hc [.int i] cw_X5_112 rfl dX5_bestPost_2 hK hW.o hM hS hl.1 rfl rfl ⟨Nat.le_of_ble_eq_true rfl, Nat.le_of_ble_eq_true rfl⟩ ⟨Nat.le_of_ble_eq_true rfl, Nat.le_of_ble_eq_true rfl⟩ (Nat.le_of_ble_eq_true rfl) (fun H locs hM hS => ?_)
  refine lv_aload_n hx hb dX5_bestPost_5 rfl (lv_at hl 0 rfl) ?_
  refine gt_X5_10 hc dX5_bestPost_6 hM hW.o rfl ?_
  refine lv_iload_n hx hb dX5_bestPost_9 rfl (lv_at hl 1 rfl) ?_
  refine k_V1 hc [.int i] cw_X5_192 rfl dX5_bestPost_10 (c_X0_clearestPost l hlf g _ (x + 1) (cs 0) i (hW.flat (k := 0) (a := x + 1) (by decide) rfl)) (hW.flat (k := 0) (a := x + 1) (by decide) rfl).o hM hS hl.1 rfl rfl ⟨Nat.le_of_ble_eq_true rfl, Nat.le_of_ble_eq_true rfl⟩ ⟨Nat.le_of_ble_eq_true rfl, Nat.le_of_ble_eq_true rfl⟩ (Nat.le_of_ble_eq_true rfl) (fun H locs hM hS => ?_)
  refine lv_istore_n (lv' := [(2, .int (bestF (cs 0) i)), (0, .ref x), (1, .int i)]) hx hb dX5_bestPost_13 rfl hl (by decide) rfl (fun ls hl => ?_)
  refine lv_iload_n hx hb dX5_bestPost_14 rfl (lv_at hl 0 rfl) ?_
  refine lv_iconst (v := (-1)) hx hb dX5_bestPost_15 (by decide) ?_
  refine lv_icmp_ne (tgt := 29) hx hb dX5_bestPost_16 (by decide) (fun c_16 => ?_) (fun c_16 => ?_)
  · skip
    refine lv_iload_n hx hb dX5_bestPost_29 rfl (lv_at hl 0 rfl) ?_
    exact k_iret hc hr dX5_bestPost_30 hM hS (Nat.le_of_ble_eq_true rfl) (Nat.le_of_ble_eq_true rfl) (by first | (simp only [eq_true q_2_0, eq_false c_16, not_false_eq_true, not_true_eq_false, and_true, true_and, and_false, false_and, and_self, ↓reduceIte, or_true, true_or, or_self, or_false, false_or]; done) | (simp only [eq_true q_2_0, eq_false c_16, not_false_eq_true, not_true_eq_false, and_true, true_and, and_false, false_and, and_self, ↓reduceIte, or_true, true_or, or_self, or_false, false_or]; rfl))
  · skip
    exact k_throwN hc hnx 17 tx_17 hM hS hl.1 dX5_bestPost_19 dX5_bestPost_22 dX5_bestPost_23 dX5_bestPost_25 dX5_bestPost_28 ⟨Nat.le_of_ble_eq_true rfl, Nat.le_of_ble_eq_true rfl, Nat.le_of_ble_eq_true rfl, Nat.le_of_ble_eq_true rfl⟩ (Nat.le_of_ble_eq_true rfl) (Nat.le_of_ble_eq_true rfl) (by first | (simp only [eq_true q_2_0, eq_true c_16, not_false_eq_true, not_true_eq_false, and_true, true_and, and_false, false_and, and_self, ↓reduceIte, or_true, true_or, or_self, or_false, false_or]; done) | (simp only [eq_true q_2_0, eq_true c_16, not_false_eq_true, not_true_eq_false, and_true, true_and, and_false, false_and, and_self, ↓reduceIte, or_true, true_or, or_self, or_false, false_or]; rfl))
set_option maxHeartbeats 4000000 in
set_option maxRecDepth 100000 in
theorem c_X5_clearIn (l : Launch) (hlf : l.stackTraces = false) (g : GC) (M : HM) (x : Nat) (cs : CS) (i : Int32) (j : Int32) (hW : ClsAt g M x cs) : KM g l yX5_clearIn cX5_clearIn 4 (some .int) 8 3 18 [.ref x, .int i, .int j] M (if rin 10 (cs 0 8 0) i then if rin 4 (cs 0 8 1) j then if ¬ clearF (cs 0) i j = -1 then .inl (some (.int (clearF (cs 0) i j)), M) else .inr ("java/util/NoSuchElementException", M) else .inr ("java/lang/IndexOutOfBoundsException", M) else .inr ("java/lang/IndexOutOfBoundsException", M)) := by
  refine k_meth hlf (by decide) (Nat.le_of_ble_eq_true rfl) fun p e s m below meth c ls hc hr hnx hM hS hl => ?_
  have hc : Cx g p l s m [.ref x, .int i, .int j].toArray meth c cX5_clearIn 4 RX5 := hc
  have hx := hc.1
  have hb := hc.2.1
  have hl : lv_has ls 4 [(0, .ref x), (1, .int i), (2, .int j)] := hl
  refine lv_aload_n hx hb dX5_clearIn_0 rfl (lv_at hl 0 rfl) ?_
  refine lv_iload_n hx hb dX5_clearIn_1 rfl (lv_at hl 1 rfl) ?_
  by_cases q_2_0 : rin 10 (cs 0 8 0) i
  rotate_left 1
  · skip
    have hK := c_X5_needStake l hlf g _ x cs i hW
    rw [if_neg q_2_0] at hK
    refine k_VX hc [.int i] cw_X5_112 rfl dX5_clearIn_2 hK hW.o hM hS hl.1 rfl rfl ⟨Nat.le_of_ble_eq_true rfl, Nat.le_of_ble_eq_true rfl⟩ ⟨Nat.le_of_ble_eq_true rfl, Nat.le_of_ble_eq_true rfl⟩ (Nat.le_of_ble_eq_true rfl) (fun H locs q9 ce hM hS h1 h2 h3 => ?_)
    exact k_out hc hnx hM hS (Nat.le_of_ble_eq_true rfl) (Nat.le_of_ble_eq_true rfl) h1 h2 h3 (by first | (simp only [eq_false q_2_0, not_false_eq_true, not_true_eq_false, and_true, true_and, and_false, false_and, and_self, ↓reduceIte, or_true, true_or, or_self, or_false, false_or]; done) | (simp only [eq_false q_2_0, not_false_eq_true, not_true_eq_false, and_true, true_and, and_false, false_and, and_self, ↓reduceIte, or_true, true_or, or_self, or_false, false_or]; rfl))
  have hK := c_X5_needStake l hlf g _ x cs i hW
  rw [if_pos q_2_0] at hK
  refine k_V0 hc [.int i] cw_X5_112 rfl dX5_clearIn_2 hK hW.o hM hS hl.1 rfl rfl ⟨Nat.le_of_ble_eq_true rfl, Nat.le_of_ble_eq_true rfl⟩ ⟨Nat.le_of_ble_eq_true rfl, Nat.le_of_ble_eq_true rfl⟩ (Nat.le_of_ble_eq_true rfl) (fun H locs hM hS => ?_)
  refine lv_aload_n hx hb dX5_clearIn_5 rfl (lv_at hl 0 rfl) ?_
  refine lv_iload_n hx hb dX5_clearIn_6 rfl (lv_at hl 2 rfl) ?_
  by_cases q_7_0 : rin 4 (cs 0 8 1) j
  rotate_left 1
  · skip
    have hK := c_X5_needPost l hlf g _ x cs j hW
    rw [if_neg q_7_0] at hK
    refine k_VX hc [.int j] cw_X5_125 rfl dX5_clearIn_7 hK hW.o hM hS hl.1 rfl rfl ⟨Nat.le_of_ble_eq_true rfl, Nat.le_of_ble_eq_true rfl⟩ ⟨Nat.le_of_ble_eq_true rfl, Nat.le_of_ble_eq_true rfl⟩ (Nat.le_of_ble_eq_true rfl) (fun H locs q9 ce hM hS h1 h2 h3 => ?_)
    exact k_out hc hnx hM hS (Nat.le_of_ble_eq_true rfl) (Nat.le_of_ble_eq_true rfl) h1 h2 h3 (by first | (simp only [eq_true q_2_0, eq_false q_7_0, not_false_eq_true, not_true_eq_false, and_true, true_and, and_false, false_and, and_self, ↓reduceIte, or_true, true_or, or_self, or_false, false_or]; done) | (simp only [eq_true q_2_0, eq_false q_7_0, not_false_eq_true, not_true_eq_false, and_true, true_and, and_false, false_and, and_self, ↓reduceIte, or_true, true_or, or_self, or_false, false_or]; rfl))
  have hK := c_X5_needPost l hlf g _ x cs j hW
  rw [if_pos q_7_0] at hK
  refine k_V0 hc [.int j] cw_X5_125 rfl dX5_clearIn_7 hK hW.o hM hS hl.1 rfl rfl ⟨Nat.le_of_ble_eq_true rfl, Nat.le_of_ble_eq_true rfl⟩ ⟨Nat.le_of_ble_eq_true rfl, Nat.le_of_ble_eq_true rfl⟩ (Nat.le_of_ble_eq_true rfl) (fun H locs hM hS => ?_)
  refine lv_aload_n hx hb dX5_clearIn_10 rfl (lv_at hl 0 rfl) ?_
  refine gt_X5_10 hc dX5_clearIn_11 hM hW.o rfl ?_
  refine lv_iload_n hx hb dX5_clearIn_14 rfl (lv_at hl 1 rfl) ?_
  refine lv_iload_n hx hb dX5_clearIn_15 rfl (lv_at hl 2 rfl) ?_
  refine k_V1 hc [.int i, .int j] cw_X5_197 rfl dX5_clearIn_16 (c_X0_hoursUntilClear l hlf g _ (x + 1) (cs 0) i j (hW.flat (k := 0) (a := x + 1) (by decide) rfl)) (hW.flat (k := 0) (a := x + 1) (by decide) rfl).o hM hS hl.1 rfl rfl ⟨Nat.le_of_ble_eq_true rfl, Nat.le_of_ble_eq_true rfl⟩ ⟨Nat.le_of_ble_eq_true rfl, Nat.le_of_ble_eq_true rfl⟩ (Nat.le_of_ble_eq_true rfl) (fun H locs hM hS => ?_)
  refine lv_istore_n (lv' := [(3, .int (clearF (cs 0) i j)), (0, .ref x), (1, .int i), (2, .int j)]) hx hb dX5_clearIn_19 rfl hl (by decide) rfl (fun ls hl => ?_)
  refine lv_iload_n hx hb dX5_clearIn_20 rfl (lv_at hl 0 rfl) ?_
  refine lv_iconst (v := (-1)) hx hb dX5_clearIn_21 (by decide) ?_
  refine lv_icmp_ne (tgt := 35) hx hb dX5_clearIn_22 (by decide) (fun c_22 => ?_) (fun c_22 => ?_)
  · skip
    refine lv_iload_n hx hb dX5_clearIn_35 rfl (lv_at hl 0 rfl) ?_
    exact k_iret hc hr dX5_clearIn_36 hM hS (Nat.le_of_ble_eq_true rfl) (Nat.le_of_ble_eq_true rfl) (by first | (simp only [eq_true q_2_0, eq_true q_7_0, eq_false c_22, not_false_eq_true, not_true_eq_false, and_true, true_and, and_false, false_and, and_self, ↓reduceIte, or_true, true_or, or_self, or_false, false_or]; done) | (simp only [eq_true q_2_0, eq_true q_7_0, eq_false c_22, not_false_eq_true, not_true_eq_false, and_true, true_and, and_false, false_and, and_self, ↓reduceIte, or_true, true_or, or_self, or_false, false_or]; rfl))
  · skip
    exact k_throwN hc hnx 18 tx_18 hM hS hl.1 dX5_clearIn_25 dX5_clearIn_28 dX5_clearIn_29 dX5_clearIn_31 dX5_clearIn_34 ⟨Nat.le_of_ble_eq_true rfl, Nat.le_of_ble_eq_true rfl, Nat.le_of_ble_eq_true rfl, Nat.le_of_ble_eq_true rfl⟩ (Nat.le_of_ble_eq_true rfl) (Nat.le_of_ble_eq_true rfl) (by first | (simp only [eq_true q_2_0, eq_true q_7_0, eq_true c_22, not_false_eq_true, not_true_eq_false, and_true, true_and, and_false, false_and, and_self, ↓reduceIte, or_true, true_or, or_self, or_false, false_or]; done) | (simp only [eq_true q_2_0, eq_true q_7_0, eq_true c_22, not_false_eq_true, not_true_eq_false, and_true, true_and, and_false, false_and, and_self, ↓reduceIte, or_true, true_or, or_self, or_false, false_or]; rfl))
set_option maxHeartbeats 4000000 in
set_option maxRecDepth 100000 in
theorem c_X5_heatIn (l : Launch) (hlf : l.stackTraces = false) (g : GC) (M : HM) (x : Nat) (cs : CS) (i : Int32) (hW : ClsAt g M x cs) : KM g l yX5_heatIn cX5_heatIn 2 (some .int) 6 3 18 [.ref x, .int i] M (if ¬ i < 0 ∧ i < 48 then .inl (some (.int (heatI (cs 0 9 2) (cs 0 9 1 + i))), M) else .inr ("java/lang/IllegalArgumentException", M)) := by
  refine k_meth hlf (by decide) (Nat.le_of_ble_eq_true rfl) fun p e s m below meth c ls hc hr hnx hM hS hl => ?_
  have hc : Cx g p l s m [.ref x, .int i].toArray meth c cX5_heatIn 2 RX5 := hc
  have hx := hc.1
  have hb := hc.2.1
  have hl : lv_has ls 2 [(0, .ref x), (1, .int i)] := hl
  refine lv_iload_n hx hb dX5_heatIn_0 rfl (lv_at hl 1 rfl) ?_
  refine lv_if_lt (tgt := 10) hx hb dX5_heatIn_1 (by decide) (fun c_1 => ?_) (fun c_1 => ?_)
  · skip
    exact k_throw hc hnx th_IllegalArgumentException 19 tx_19 hM hS hl.1 dX5_heatIn_10 dX5_heatIn_13 dX5_heatIn_14 dX5_heatIn_16 dX5_heatIn_19 ⟨Nat.le_of_ble_eq_true rfl, Nat.le_of_ble_eq_true rfl, Nat.le_of_ble_eq_true rfl, Nat.le_of_ble_eq_true rfl⟩ (Nat.le_of_ble_eq_true rfl) (Nat.le_of_ble_eq_true rfl) (by first | (simp only [eq_true c_1, not_false_eq_true, not_true_eq_false, and_true, true_and, and_false, false_and, and_self, ↓reduceIte, or_true, true_or, or_self, or_false, false_or]; done) | (simp only [eq_true c_1, not_false_eq_true, not_true_eq_false, and_true, true_and, and_false, false_and, and_self, ↓reduceIte, or_true, true_or, or_self, or_false, false_or]; rfl))
  · skip
    refine lv_iload_n hx hb dX5_heatIn_4 rfl (lv_at hl 1 rfl) ?_
    refine lv_bipush (v := 48) hx hb dX5_heatIn_5 (by decide) ?_
    refine lv_icmp_lt (tgt := 20) hx hb dX5_heatIn_7 (by decide) (fun c_7 => ?_) (fun c_7 => ?_)
    · skip
      refine lv_aload_n hx hb dX5_heatIn_20 rfl (lv_at hl 0 rfl) ?_
      refine gt_X5_10 hc dX5_heatIn_21 hM hW.o rfl ?_
      refine lv_aload_n hx hb dX5_heatIn_24 rfl (lv_at hl 0 rfl) ?_
      refine gt_X5_10 hc dX5_heatIn_25 hM hW.o rfl ?_
      refine gt_X5_204 hc dX5_heatIn_28 hM (hW.flat (k := 0) (a := x + 1) (by decide) rfl).o rfl ?_
      refine lv_iload_n hx hb dX5_heatIn_31 rfl (lv_at hl 1 rfl) ?_
      refine lv_iadd hx hb dX5_heatIn_32 ?_
      refine k_V1 hc [.int ((cs 0 9 1) + i)] cw_X5_207 rfl dX5_heatIn_33 (c_X0_heatAt l hlf g _ (x + 1) (cs 0) ((cs 0 9 1) + i) (hW.flat (k := 0) (a := x + 1) (by decide) rfl)) (hW.flat (k := 0) (a := x + 1) (by decide) rfl).o hM hS hl.1 rfl rfl ⟨Nat.le_of_ble_eq_true rfl, Nat.le_of_ble_eq_true rfl⟩ ⟨Nat.le_of_ble_eq_true rfl, Nat.le_of_ble_eq_true rfl⟩ (Nat.le_of_ble_eq_true rfl) (fun H locs hM hS => ?_)
      exact k_iret hc hr dX5_heatIn_36 hM hS (Nat.le_of_ble_eq_true rfl) (Nat.le_of_ble_eq_true rfl) (by first | (simp only [eq_false c_1, eq_true c_7, not_false_eq_true, not_true_eq_false, and_true, true_and, and_false, false_and, and_self, ↓reduceIte, or_true, true_or, or_self, or_false, false_or]; done) | (simp only [eq_false c_1, eq_true c_7, not_false_eq_true, not_true_eq_false, and_true, true_and, and_false, false_and, and_self, ↓reduceIte, or_true, true_or, or_self, or_false, false_or]; rfl))
    · skip
      exact k_throw hc hnx th_IllegalArgumentException 19 tx_19 hM hS hl.1 dX5_heatIn_10 dX5_heatIn_13 dX5_heatIn_14 dX5_heatIn_16 dX5_heatIn_19 ⟨Nat.le_of_ble_eq_true rfl, Nat.le_of_ble_eq_true rfl, Nat.le_of_ble_eq_true rfl, Nat.le_of_ble_eq_true rfl⟩ (Nat.le_of_ble_eq_true rfl) (Nat.le_of_ble_eq_true rfl) (by first | (simp only [eq_false c_1, eq_false c_7, not_false_eq_true, not_true_eq_false, and_true, true_and, and_false, false_and, and_self, ↓reduceIte, or_true, true_or, or_self, or_false, false_or]; done) | (simp only [eq_false c_1, eq_false c_7, not_false_eq_true, not_true_eq_false, and_true, true_and, and_false, false_and, and_self, ↓reduceIte, or_true, true_or, or_self, or_false, false_or]; rfl))
set_option maxHeartbeats 4000000 in
set_option maxRecDepth 100000 in
theorem c_X5_lostIn (l : Launch) (hlf : l.stackTraces = false) (g : GC) (M : HM) (x : Nat) (cs : CS) (i : Int32) (hW : ClsAt g M x cs) : KM g l yX5_lostIn cX5_lostIn 3 (some .int) 7 3 18 [.ref x, .int i] M (if rin 6 (cs 0 8 4) i then if ¬ lostF (cs 0) i = -1 then .inl (some (.int (lostF (cs 0) i)), M) else .inr ("java/util/NoSuchElementException", M) else .inr ("java/lang/IndexOutOfBoundsException", M)) := by
  refine k_meth hlf (by decide) (Nat.le_of_ble_eq_true rfl) fun p e s m below meth c ls hc hr hnx hM hS hl => ?_
  have hc : Cx g p l s m [.ref x, .int i].toArray meth c cX5_lostIn 3 RX5 := hc
  have hx := hc.1
  have hb := hc.2.1
  have hl : lv_has ls 3 [(0, .ref x), (1, .int i)] := hl
  refine lv_aload_n hx hb dX5_lostIn_0 rfl (lv_at hl 0 rfl) ?_
  refine lv_iload_n hx hb dX5_lostIn_1 rfl (lv_at hl 1 rfl) ?_
  by_cases q_2_0 : rin 6 (cs 0 8 4) i
  rotate_left 1
  · skip
    have hK := c_X5_needCamel l hlf g _ x cs i hW
    rw [if_neg q_2_0] at hK
    refine k_VX hc [.int i] cw_X5_134 rfl dX5_lostIn_2 hK hW.o hM hS hl.1 rfl rfl ⟨Nat.le_of_ble_eq_true rfl, Nat.le_of_ble_eq_true rfl⟩ ⟨Nat.le_of_ble_eq_true rfl, Nat.le_of_ble_eq_true rfl⟩ (Nat.le_of_ble_eq_true rfl) (fun H locs q9 ce hM hS h1 h2 h3 => ?_)
    exact k_out hc hnx hM hS (Nat.le_of_ble_eq_true rfl) (Nat.le_of_ble_eq_true rfl) h1 h2 h3 (by first | (simp only [eq_false q_2_0, not_false_eq_true, not_true_eq_false, and_true, true_and, and_false, false_and, and_self, ↓reduceIte, or_true, true_or, or_self, or_false, false_or]; done) | (simp only [eq_false q_2_0, not_false_eq_true, not_true_eq_false, and_true, true_and, and_false, false_and, and_self, ↓reduceIte, or_true, true_or, or_self, or_false, false_or]; rfl))
  have hK := c_X5_needCamel l hlf g _ x cs i hW
  rw [if_pos q_2_0] at hK
  refine k_V0 hc [.int i] cw_X5_134 rfl dX5_lostIn_2 hK hW.o hM hS hl.1 rfl rfl ⟨Nat.le_of_ble_eq_true rfl, Nat.le_of_ble_eq_true rfl⟩ ⟨Nat.le_of_ble_eq_true rfl, Nat.le_of_ble_eq_true rfl⟩ (Nat.le_of_ble_eq_true rfl) (fun H locs hM hS => ?_)
  refine lv_aload_n hx hb dX5_lostIn_5 rfl (lv_at hl 0 rfl) ?_
  refine gt_X5_10 hc dX5_lostIn_6 hM hW.o rfl ?_
  refine lv_iload_n hx hb dX5_lostIn_9 rfl (lv_at hl 1 rfl) ?_
  refine k_V1 hc [.int i] cw_X5_210 rfl dX5_lostIn_10 (c_X0_hoursUntilLost l hlf g _ (x + 1) (cs 0) i (hW.flat (k := 0) (a := x + 1) (by decide) rfl)) (hW.flat (k := 0) (a := x + 1) (by decide) rfl).o hM hS hl.1 rfl rfl ⟨Nat.le_of_ble_eq_true rfl, Nat.le_of_ble_eq_true rfl⟩ ⟨Nat.le_of_ble_eq_true rfl, Nat.le_of_ble_eq_true rfl⟩ (Nat.le_of_ble_eq_true rfl) (fun H locs hM hS => ?_)
  refine lv_istore_n (lv' := [(2, .int (lostF (cs 0) i)), (0, .ref x), (1, .int i)]) hx hb dX5_lostIn_13 rfl hl (by decide) rfl (fun ls hl => ?_)
  refine lv_iload_n hx hb dX5_lostIn_14 rfl (lv_at hl 0 rfl) ?_
  refine lv_iconst (v := (-1)) hx hb dX5_lostIn_15 (by decide) ?_
  refine lv_icmp_ne (tgt := 29) hx hb dX5_lostIn_16 (by decide) (fun c_16 => ?_) (fun c_16 => ?_)
  · skip
    refine lv_iload_n hx hb dX5_lostIn_29 rfl (lv_at hl 0 rfl) ?_
    exact k_iret hc hr dX5_lostIn_30 hM hS (Nat.le_of_ble_eq_true rfl) (Nat.le_of_ble_eq_true rfl) (by first | (simp only [eq_true q_2_0, eq_false c_16, not_false_eq_true, not_true_eq_false, and_true, true_and, and_false, false_and, and_self, ↓reduceIte, or_true, true_or, or_self, or_false, false_or]; done) | (simp only [eq_true q_2_0, eq_false c_16, not_false_eq_true, not_true_eq_false, and_true, true_and, and_false, false_and, and_self, ↓reduceIte, or_true, true_or, or_self, or_false, false_or]; rfl))
  · skip
    exact k_throwN hc hnx 20 tx_20 hM hS hl.1 dX5_lostIn_19 dX5_lostIn_22 dX5_lostIn_23 dX5_lostIn_25 dX5_lostIn_28 ⟨Nat.le_of_ble_eq_true rfl, Nat.le_of_ble_eq_true rfl, Nat.le_of_ble_eq_true rfl, Nat.le_of_ble_eq_true rfl⟩ (Nat.le_of_ble_eq_true rfl) (Nat.le_of_ble_eq_true rfl) (by first | (simp only [eq_true q_2_0, eq_true c_16, not_false_eq_true, not_true_eq_false, and_true, true_and, and_false, false_and, and_self, ↓reduceIte, or_true, true_or, or_self, or_false, false_or]; done) | (simp only [eq_true q_2_0, eq_true c_16, not_false_eq_true, not_true_eq_false, and_true, true_and, and_false, false_and, and_self, ↓reduceIte, or_true, true_or, or_self, or_false, false_or]; rfl))
set_option maxHeartbeats 4000000 in
set_option maxRecDepth 100000 in
theorem c_X5_nearest (l : Launch) (hlf : l.stackTraces = false) (g : GC) (M : HM) (x : Nat) (cs : CS) (i : Int32) (hW : ClsAt g M x cs) : KM g l yX5_nearest cX5_nearest 3 (some .int) 7 3 18 [.ref x, .int i] M (if isPl i then if ¬ ncF (cs 0) i = -1 then .inl (some (.int (ncF (cs 0) i)), M) else .inr ("java/util/NoSuchElementException", M) else .inr ("java/lang/IllegalArgumentException", M)) := by
  refine k_meth hlf (by decide) (Nat.le_of_ble_eq_true rfl) fun p e s m below meth c ls hc hr hnx hM hS hl => ?_
  have hc : Cx g p l s m [.ref x, .int i].toArray meth c cX5_nearest 3 RX5 := hc
  have hx := hc.1
  have hb := hc.2.1
  have hl : lv_has ls 3 [(0, .ref x), (1, .int i)] := hl
  refine lv_iload_n hx hb dX5_nearest_0 rfl (lv_at hl 1 rfl) ?_
  refine k_S1 hc [.int i] cw_X5_215 dX5_nearest_1 (c_X5_isPlace l hlf g _ i) hM hS hl.1 rfl rfl ⟨Nat.le_of_ble_eq_true rfl, Nat.le_of_ble_eq_true rfl⟩ ⟨Nat.le_of_ble_eq_true rfl, Nat.le_of_ble_eq_true rfl⟩ (Nat.le_of_ble_eq_true rfl) (fun H locs hM hS => ?_)
  refine lv_if_ne (tgt := 17) hx hb dX5_nearest_4 (by decide) (fun c_4 => ?_) (fun c_4 => ?_)
  · skip
    have c_4 := bI_ne.mp c_4
    refine lv_aload_n hx hb dX5_nearest_17 rfl (lv_at hl 0 rfl) ?_
    refine gt_X5_10 hc dX5_nearest_18 hM hW.o rfl ?_
    refine lv_iload_n hx hb dX5_nearest_21 rfl (lv_at hl 1 rfl) ?_
    refine k_V1 hc [.int i] cw_X5_220 rfl dX5_nearest_22 (c_X0_nearestCamel l hlf g _ (x + 1) (cs 0) i (hW.flat (k := 0) (a := x + 1) (by decide) rfl)) (hW.flat (k := 0) (a := x + 1) (by decide) rfl).o hM hS hl.1 rfl rfl ⟨Nat.le_of_ble_eq_true rfl, Nat.le_of_ble_eq_true rfl⟩ ⟨Nat.le_of_ble_eq_true rfl, Nat.le_of_ble_eq_true rfl⟩ (Nat.le_of_ble_eq_true rfl) (fun H locs hM hS => ?_)
    refine lv_istore_n (lv' := [(2, .int (ncF (cs 0) i)), (0, .ref x), (1, .int i)]) hx hb dX5_nearest_25 rfl hl (by decide) rfl (fun ls hl => ?_)
    refine lv_iload_n hx hb dX5_nearest_26 rfl (lv_at hl 0 rfl) ?_
    refine lv_iconst (v := (-1)) hx hb dX5_nearest_27 (by decide) ?_
    refine lv_icmp_ne (tgt := 41) hx hb dX5_nearest_28 (by decide) (fun c_28 => ?_) (fun c_28 => ?_)
    · skip
      refine lv_iload_n hx hb dX5_nearest_41 rfl (lv_at hl 0 rfl) ?_
      exact k_iret hc hr dX5_nearest_42 hM hS (Nat.le_of_ble_eq_true rfl) (Nat.le_of_ble_eq_true rfl) (by first | (simp only [eq_true c_4, eq_false c_28, not_false_eq_true, not_true_eq_false, and_true, true_and, and_false, false_and, and_self, ↓reduceIte, or_true, true_or, or_self, or_false, false_or]; done) | (simp only [eq_true c_4, eq_false c_28, not_false_eq_true, not_true_eq_false, and_true, true_and, and_false, false_and, and_self, ↓reduceIte, or_true, true_or, or_self, or_false, false_or]; rfl))
    · skip
      exact k_throwN hc hnx 22 tx_22 hM hS hl.1 dX5_nearest_31 dX5_nearest_34 dX5_nearest_35 dX5_nearest_37 dX5_nearest_40 ⟨Nat.le_of_ble_eq_true rfl, Nat.le_of_ble_eq_true rfl, Nat.le_of_ble_eq_true rfl, Nat.le_of_ble_eq_true rfl⟩ (Nat.le_of_ble_eq_true rfl) (Nat.le_of_ble_eq_true rfl) (by first | (simp only [eq_true c_4, eq_true c_28, not_false_eq_true, not_true_eq_false, and_true, true_and, and_false, false_and, and_self, ↓reduceIte, or_true, true_or, or_self, or_false, false_or]; done) | (simp only [eq_true c_4, eq_true c_28, not_false_eq_true, not_true_eq_false, and_true, true_and, and_false, false_and, and_self, ↓reduceIte, or_true, true_or, or_self, or_false, false_or]; rfl))
  · skip
    have c_4 := bI_eq.mp c_4
    exact k_throw hc hnx th_IllegalArgumentException 21 tx_21 hM hS hl.1 dX5_nearest_7 dX5_nearest_10 dX5_nearest_11 dX5_nearest_13 dX5_nearest_16 ⟨Nat.le_of_ble_eq_true rfl, Nat.le_of_ble_eq_true rfl, Nat.le_of_ble_eq_true rfl, Nat.le_of_ble_eq_true rfl⟩ (Nat.le_of_ble_eq_true rfl) (Nat.le_of_ble_eq_true rfl) (by first | (simp only [eq_false c_4, not_false_eq_true, not_true_eq_false, and_true, true_and, and_false, false_and, and_self, ↓reduceIte, or_true, true_or, or_self, or_false, false_or]; done) | (simp only [eq_false c_4, not_false_eq_true, not_true_eq_false, and_true, true_and, and_false, false_and, and_self, ↓reduceIte, or_true, true_or, or_self, or_false, false_or]; rfl))
set_option maxHeartbeats 4000000 in
set_option maxRecDepth 100000 in
theorem c_X5_append (l : Launch) (hlf : l.stackTraces = false) (g : GC) (M : HM) (x : Nat) (cs : CS) (v : Int32) (hW : ClsAt g M x cs) (hv : chOk v) : KM g l yX5_append cX5_append 2 (some .int) 6 3 18 [.ref x, .int v] M (if cs 11 3 1 < nI 60 then .inl (some (.int (tpS cs v 11 3 1)), (putC g M x (tpS cs v))) else .inr ("java/lang/IllegalStateException", M)) := by
  refine k_meth hlf (by decide) (Nat.le_of_ble_eq_true rfl) fun p e s m below meth c ls hc hr hnx hM hS hl => ?_
  have hc : Cx g p l s m [.ref x, .int v].toArray meth c cX5_append 2 RX5 := hc
  have hx := hc.1
  have hb := hc.2.1
  have hl : lv_has ls 2 [(0, .ref x), (1, .int v)] := hl
  refine lv_aload_n hx hb dX5_append_0 rfl (lv_at hl 0 rfl) ?_
  refine gt_X5_32 hc dX5_append_1 hM hW.o rfl ?_
  refine k_V1 hc [] cw_X5_225 rfl dX5_append_4 (c_X4_isFull l hlf g _ x cs hW) hW.te hM hS hl.1 rfl rfl ⟨Nat.le_of_ble_eq_true rfl, Nat.le_of_ble_eq_true rfl⟩ ⟨Nat.le_of_ble_eq_true rfl, Nat.le_of_ble_eq_true rfl⟩ (Nat.le_of_ble_eq_true rfl) (fun H locs hM hS => ?_)
  refine lv_if_eq (tgt := 20) hx hb dX5_append_7 (by decide) (fun c_7 => ?_) (fun c_7 => ?_)
  · skip
    have c_7 := bI_eq.mp c_7
    refine lv_aload_n hx hb dX5_append_20 rfl (lv_at hl 0 rfl) ?_
    refine gt_X5_32 hc dX5_append_21 hM hW.o rfl ?_
    refine lv_iload_n hx hb dX5_append_24 rfl (lv_at hl 1 rfl) ?_
    refine k_V1 hc [.int v] cw_X5_234 rfl dX5_append_25 (c_X4_put l hlf g _ x cs v hW hv) hW.te hM hS hl.1 rfl rfl ⟨Nat.le_of_ble_eq_true rfl, Nat.le_of_ble_eq_true rfl⟩ ⟨Nat.le_of_ble_eq_true rfl, Nat.le_of_ble_eq_true rfl⟩ (Nat.le_of_ble_eq_true rfl) (fun H locs hM hS => ?_)
    have hW := ClsAt.put (g := g) (M := M) (x := x) (cs := (tpS cs v))
    exact k_iret hc hr dX5_append_28 hM hS (Nat.le_of_ble_eq_true rfl) (Nat.le_of_ble_eq_true rfl) (by first | (simp only [eq_false c_7, not_false_eq_true, not_true_eq_false, and_true, true_and, and_false, false_and, and_self, ↓reduceIte, or_true, true_or, or_self, or_false, false_or]; done) | (simp only [eq_false c_7, not_false_eq_true, not_true_eq_false, and_true, true_and, and_false, false_and, and_self, ↓reduceIte, or_true, true_or, or_self, or_false, false_or]; rfl))
  · skip
    have c_7 := bI_ne.mp c_7
    exact k_throw hc hnx th_IllegalStateException 23 tx_23 hM hS hl.1 dX5_append_10 dX5_append_13 dX5_append_14 dX5_append_16 dX5_append_19 ⟨Nat.le_of_ble_eq_true rfl, Nat.le_of_ble_eq_true rfl, Nat.le_of_ble_eq_true rfl, Nat.le_of_ble_eq_true rfl⟩ (Nat.le_of_ble_eq_true rfl) (Nat.le_of_ble_eq_true rfl) (by first | (simp only [eq_true c_7, not_false_eq_true, not_true_eq_false, and_true, true_and, and_false, false_and, and_self, ↓reduceIte, or_true, true_or, or_self, or_false, false_or]; done) | (simp only [eq_true c_7, not_false_eq_true, not_true_eq_false, and_true, true_and, and_false, false_and, and_self, ↓reduceIte, or_true, true_or, or_self, or_false, false_or]; rfl))
set_option maxHeartbeats 4000000 in
set_option maxRecDepth 100000 in
theorem c_X5_faultPosition (l : Launch) (hlf : l.stackTraces = false) (g : GC) (M : HM) (x : Nat) (cs : CS) (hW : ClsAt g M x cs) : KM g l yX5_faultPosition cX5_faultPosition 1 (some .int) 1 0 0 [.ref x] M (.inl (some (.int (cs 11 3 8)), M)) := by
  refine k_meth hlf (by decide) (Nat.le_of_ble_eq_true rfl) fun p e s m below meth c ls hc hr hnx hM hS hl => ?_
  have hc : Cx g p l s m [.ref x].toArray meth c cX5_faultPosition 1 RX5 := hc
  have hx := hc.1
  have hb := hc.2.1
  have hl : lv_has ls 1 [(0, .ref x)] := hl
  refine lv_aload_n hx hb dX5_faultPosition_0 rfl (lv_at hl 0 rfl) ?_
  refine gt_X5_47 hc dX5_faultPosition_1 hM hW.o rfl ?_
  exact k_iret hc hr dX5_faultPosition_4 hM hS (Nat.le_of_ble_eq_true rfl) (Nat.le_of_ble_eq_true rfl) (by rfl)
set_option maxHeartbeats 4000000 in
set_option maxRecDepth 100000 in
theorem c_X5_reason (l : Launch) (hlf : l.stackTraces = false) (g : GC) (M : HM) (x : Nat) (cs : CS) (w : Int32) (hW : ClsAt g M x cs) : KM g l yX5_reason cX5_reason 2 (some .int) 6 3 18 [.ref x, .int w] M (if ¬ w < 0 ∧ w ≤ 2 then if ¬ cs 11 3 10 = 0 then .inl (some (.int (rsV cs w)), M) else .inr ("java/util/NoSuchElementException", M) else .inr ("java/lang/IllegalArgumentException", M)) := by
  refine k_meth hlf (by decide) (Nat.le_of_ble_eq_true rfl) fun p e s m below meth c ls hc hr hnx hM hS hl => ?_
  have hc : Cx g p l s m [.ref x, .int w].toArray meth c cX5_reason 2 RX5 := hc
  have hx := hc.1
  have hb := hc.2.1
  have hl : lv_has ls 2 [(0, .ref x), (1, .int w)] := hl
  refine lv_iload_n hx hb dX5_reason_0 rfl (lv_at hl 1 rfl) ?_
  refine lv_if_lt (tgt := 9) hx hb dX5_reason_1 (by decide) (fun c_1 => ?_) (fun c_1 => ?_)
  · skip
    exact k_throwW hc hnx th_IllegalArgumentException 25 tx_25 hM hS hl.1 dX5_reason_9 dX5_reason_12 dX5_reason_13 dX5_reason_16 dX5_reason_19 ⟨Nat.le_of_ble_eq_true rfl, Nat.le_of_ble_eq_true rfl, Nat.le_of_ble_eq_true rfl, Nat.le_of_ble_eq_true rfl⟩ (Nat.le_of_ble_eq_true rfl) (Nat.le_of_ble_eq_true rfl) (by first | (simp only [rsV, eq_true c_1, not_false_eq_true, not_true_eq_false, and_true, true_and, and_false, false_and, and_self, ↓reduceIte, or_true, true_or, or_self, or_false, false_or]; done) | (simp only [rsV, eq_true c_1, not_false_eq_true, not_true_eq_false, and_true, true_and, and_false, false_and, and_self, ↓reduceIte, or_true, true_or, or_self, or_false, false_or]; rfl))
  · skip
    refine lv_iload_n hx hb dX5_reason_4 rfl (lv_at hl 1 rfl) ?_
    refine lv_iconst (v := 2) hx hb dX5_reason_5 (by decide) ?_
    refine lv_icmp_le (tgt := 20) hx hb dX5_reason_6 (by decide) (fun c_6 => ?_) (fun c_6 => ?_)
    · skip
      refine lv_aload_n hx hb dX5_reason_20 rfl (lv_at hl 0 rfl) ?_
      refine gt_X5_54 hc dX5_reason_21 hM hW.o rfl ?_
      refine lv_if_ne (tgt := 38) hx hb dX5_reason_24 (by decide) (fun c_24 => ?_) (fun c_24 => ?_)
      · skip
        refine lv_iload_n hx hb dX5_reason_38 rfl (lv_at hl 1 rfl) ?_
        refine lv_if_ne (tgt := 47) hx hb dX5_reason_39 (by decide) (fun c_39 => ?_) (fun c_39 => ?_)
        · skip
          refine lv_iload_n hx hb dX5_reason_47 rfl (lv_at hl 1 rfl) ?_
          refine lv_iconst (v := 1) hx hb dX5_reason_48 (by decide) ?_
          refine lv_icmp_ne (tgt := 59) hx hb dX5_reason_49 (by decide) (fun c_49 => ?_) (fun c_49 => ?_)
          · skip
            refine lv_aload_n hx hb dX5_reason_59 rfl (lv_at hl 0 rfl) ?_
            refine gt_X5_60 hc dX5_reason_60 hM hW.o rfl ?_
            exact k_iret hc hr dX5_reason_63 hM hS (Nat.le_of_ble_eq_true rfl) (Nat.le_of_ble_eq_true rfl) (by first | (simp only [rsV, eq_false c_1, eq_true c_6, eq_false c_24, eq_false c_39, eq_false c_49, not_false_eq_true, not_true_eq_false, and_true, true_and, and_false, false_and, and_self, ↓reduceIte, or_true, true_or, or_self, or_false, false_or]; done) | (simp only [rsV, eq_false c_1, eq_true c_6, eq_false c_24, eq_false c_39, eq_false c_49, not_false_eq_true, not_true_eq_false, and_true, true_and, and_false, false_and, and_self, ↓reduceIte, or_true, true_or, or_self, or_false, false_or]; rfl))
          · skip
            refine lv_aload_n hx hb dX5_reason_52 rfl (lv_at hl 0 rfl) ?_
            refine gt_X5_57 hc dX5_reason_53 hM hW.o rfl ?_
            refine lv_goto (tgt := 63) hx hb dX5_reason_56 (by decide) ?_
            exact k_iret hc hr dX5_reason_63 hM hS (Nat.le_of_ble_eq_true rfl) (Nat.le_of_ble_eq_true rfl) (by first | (simp only [rsV, eq_false c_1, eq_true c_6, eq_false c_24, eq_false c_39, eq_true c_49, not_false_eq_true, not_true_eq_false, and_true, true_and, and_false, false_and, and_self, ↓reduceIte, or_true, true_or, or_self, or_false, false_or]; done) | (simp only [rsV, eq_false c_1, eq_true c_6, eq_false c_24, eq_false c_39, eq_true c_49, not_false_eq_true, not_true_eq_false, and_true, true_and, and_false, false_and, and_self, ↓reduceIte, or_true, true_or, or_self, or_false, false_or]; rfl))
        · skip
          refine lv_aload_n hx hb dX5_reason_42 rfl (lv_at hl 0 rfl) ?_
          refine gt_X5_54 hc dX5_reason_43 hM hW.o rfl ?_
          exact k_iret hc hr dX5_reason_46 hM hS (Nat.le_of_ble_eq_true rfl) (Nat.le_of_ble_eq_true rfl) (by first | (simp only [rsV, eq_false c_1, eq_true c_6, eq_false c_24, eq_true c_39, not_false_eq_true, not_true_eq_false, and_true, true_and, and_false, false_and, and_self, ↓reduceIte, or_true, true_or, or_self, or_false, false_or]; done) | (simp only [rsV, eq_false c_1, eq_true c_6, eq_false c_24, eq_true c_39, not_false_eq_true, not_true_eq_false, and_true, true_and, and_false, false_and, and_self, ↓reduceIte, or_true, true_or, or_self, or_false, false_or]; rfl))
      · skip
        exact k_throwNW hc hnx 26 tx_26 hM hS hl.1 dX5_reason_27 dX5_reason_30 dX5_reason_31 dX5_reason_34 dX5_reason_37 ⟨Nat.le_of_ble_eq_true rfl, Nat.le_of_ble_eq_true rfl, Nat.le_of_ble_eq_true rfl, Nat.le_of_ble_eq_true rfl⟩ (Nat.le_of_ble_eq_true rfl) (Nat.le_of_ble_eq_true rfl) (by first | (simp only [rsV, eq_false c_1, eq_true c_6, eq_true c_24, not_false_eq_true, not_true_eq_false, and_true, true_and, and_false, false_and, and_self, ↓reduceIte, or_true, true_or, or_self, or_false, false_or]; done) | (simp only [rsV, eq_false c_1, eq_true c_6, eq_true c_24, not_false_eq_true, not_true_eq_false, and_true, true_and, and_false, false_and, and_self, ↓reduceIte, or_true, true_or, or_self, or_false, false_or]; rfl))
    · skip
      exact k_throwW hc hnx th_IllegalArgumentException 25 tx_25 hM hS hl.1 dX5_reason_9 dX5_reason_12 dX5_reason_13 dX5_reason_16 dX5_reason_19 ⟨Nat.le_of_ble_eq_true rfl, Nat.le_of_ble_eq_true rfl, Nat.le_of_ble_eq_true rfl, Nat.le_of_ble_eq_true rfl⟩ (Nat.le_of_ble_eq_true rfl) (Nat.le_of_ble_eq_true rfl) (by first | (simp only [rsV, eq_false c_1, eq_false c_6, not_false_eq_true, not_true_eq_false, and_true, true_and, and_false, false_and, and_self, ↓reduceIte, or_true, true_or, or_self, or_false, false_or]; done) | (simp only [rsV, eq_false c_1, eq_false c_6, not_false_eq_true, not_true_eq_false, and_true, true_and, and_false, false_and, and_self, ↓reduceIte, or_true, true_or, or_self, or_false, false_or]; rfl))
set_option maxHeartbeats 4000000 in
set_option maxRecDepth 100000 in
theorem c_X5_line (l : Launch) (hlf : l.stackTraces = false) (g : GC) (M : HM) (x : Nat) (cs : CS) (i : Int32) (hW : ClsAt g M x cs) : KM g l yX5_line cX5_line 4 (some .int) 7 3 18 [.ref x, .int i] M (if hasSh (cs 0) i then .inl (some (.int (li2 cs i 11 3 4)), (putC g M x (li2 cs i))) else .inr ("java/lang/IndexOutOfBoundsException", M)) := by
  refine k_meth hlf (by decide) (Nat.le_of_ble_eq_true rfl) fun p e s m below meth c ls hc hr hnx hM hS hl => ?_
  have hc : Cx g p l s m [.ref x, .int i].toArray meth c cX5_line 4 RX5 := hc
  have hx := hc.1
  have hb := hc.2.1
  have hl : lv_has ls 4 [(0, .ref x), (1, .int i)] := hl
  refine lv_aload_n hx hb dX5_line_0 rfl (lv_at hl 0 rfl) ?_
  refine lv_iload_n hx hb dX5_line_1 rfl (lv_at hl 1 rfl) ?_
  by_cases q_2_0 : hasSh (cs 0) i
  rotate_left 1
  · skip
    have hK := c_X5_needSheet l hlf g _ x cs i hW
    rw [if_neg q_2_0] at hK
    refine k_VX hc [.int i] cw_X5_160 rfl dX5_line_2 hK hW.o hM hS hl.1 rfl rfl ⟨Nat.le_of_ble_eq_true rfl, Nat.le_of_ble_eq_true rfl⟩ ⟨Nat.le_of_ble_eq_true rfl, Nat.le_of_ble_eq_true rfl⟩ (Nat.le_of_ble_eq_true rfl) (fun H locs q9 ce hM hS h1 h2 h3 => ?_)
    exact k_out hc hnx hM hS (Nat.le_of_ble_eq_true rfl) (Nat.le_of_ble_eq_true rfl) h1 h2 h3 (by first | (simp only [eq_false q_2_0, not_false_eq_true, not_true_eq_false, and_true, true_and, and_false, false_and, and_self, ↓reduceIte, or_true, true_or, or_self, or_false, false_or]; done) | (have hk : k = (cs 0 8 0).toNatClampNeg := by omega
    subst hk
    have e1 : li1 cs i = itr (liS i) (upS cs 4 0) (cs 0 8 0).toNatClampNeg := rfl
    simp only [li2, e1, eq_false q_2_0, not_false_eq_true, not_true_eq_false, and_true, true_and, and_false, false_and, and_self, ↓reduceIte, or_true, true_or, or_self, or_false, false_or]; try rfl))
  have hK := c_X5_needSheet l hlf g _ x cs i hW
  rw [if_pos q_2_0] at hK
  refine k_V0 hc [.int i] cw_X5_160 rfl dX5_line_2 hK hW.o hM hS hl.1 rfl rfl ⟨Nat.le_of_ble_eq_true rfl, Nat.le_of_ble_eq_true rfl⟩ ⟨Nat.le_of_ble_eq_true rfl, Nat.le_of_ble_eq_true rfl⟩ (Nat.le_of_ble_eq_true rfl) (fun H locs hM hS => ?_)
  refine lv_aload_n hx hb dX5_line_5 rfl (lv_at hl 0 rfl) ?_
  refine gt_X5_39 hc dX5_line_6 hM hW.o rfl ?_
  refine k_V0 hc [] cw_X5_278 rfl dX5_line_9 (c_X2_clear l hlf g _ x cs hW) hW.li hM hS hl.1 rfl rfl ⟨Nat.le_of_ble_eq_true rfl, Nat.le_of_ble_eq_true rfl⟩ ⟨Nat.le_of_ble_eq_true rfl, Nat.le_of_ble_eq_true rfl⟩ (Nat.le_of_ble_eq_true rfl) (fun H locs hM hS => ?_)
  have hW := ClsAt.put (g := g) (M := M) (x := x) (cs := (upS cs 4 0))
  refine lv_iconst (v := 0) hx hb dX5_line_12 (by decide) ?_
  refine lv_istore_n (lv' := [(2, .int 0), (0, .ref x), (1, .int i)]) hx hb dX5_line_13 rfl hl (by decide) rfl (fun ls hl => ?_)
  have lp_14 : ∀ (D k : Nat), ((cs 0 8 0).toNatClampNeg) - k < D → k ≤ (cs 0 8 0).toNatClampNeg → ∀ (ls : Array Slot) (H : Heap) (locs : List Loc), hR g (putC g M x (itr (liS i) (upS cs 4 0) k)) H → va_S (gA g) s.heap H locs → lv_has ls 4 [(2, .int (nI k)), (0, .ref x), (1, .int i)] → W p l e (rmOf 7 3 18) s m [.ref x, .int i].toArray below meth c H locs 1 6 (vx_MQ below (KQ g (if hasSh (cs 0) i then .inl (some (.int (li2 cs i 11 3 4)), (putC g M x (li2 cs i))) else .inr ("java/lang/IndexOutOfBoundsException", M))) (KX g (if hasSh (cs 0) i then .inl (some (.int (li2 cs i 11 3 4)), (putC g M x (li2 cs i))) else .inr ("java/lang/IndexOutOfBoundsException", M))) [.ref x, .int i].toArray s 3 18 (gA g)) (F0 m 14 ls []) := by
    intro D
    induction D with
    | zero => intro k hD; exact absurd hD (Nat.not_lt_zero _)
    | succ D ih_14 =>
      intro k hD hk ls H locs hM hS hl
      have hW := ClsAt.put (g := g) (M := M) (x := x) (cs := (itr (liS i) (upS cs 4 0) k))
      refine lv_iload_n hx hb dX5_line_14 rfl (lv_at hl 0 rfl) ?_
      refine lv_aload_n hx hb dX5_line_15 rfl (lv_at hl 1 rfl) ?_
      refine gt_X5_10 hc dX5_line_16 hM hW.o rfl ?_
      refine gt_X5_116 hc dX5_line_19 hM (hW.flat (k := 0) (a := x + 1) (by decide) rfl).o rfl ?_
      refine k_V1 hc [] cw_X5_171 rfl dX5_line_22 (c_X3_size l hlf g _ (x + 2) 10 ((itr (liS i) (upS cs 4 0) k) 0 8 0) ((itr (liS i) (upS cs 4 0) k) 0 0) ((hW.flat (k := 0) (a := x + 1) (by decide) rfl).row (k := 0) (r := x + 2) (by decide) rfl rfl)) ((hW.flat (k := 0) (a := x + 1) (by decide) rfl).row (k := 0) (r := x + 2) (by decide) rfl rfl).1 hM hS hl.1 rfl rfl ⟨Nat.le_of_ble_eq_true rfl, Nat.le_of_ble_eq_true rfl⟩ ⟨Nat.le_of_ble_eq_true rfl, Nat.le_of_ble_eq_true rfl⟩ (Nat.le_of_ble_eq_true rfl) (fun H locs hM hS => ?_)
      refine lv_icmp_ge (tgt := 71) hx hb dX5_line_25 (by decide) (fun c_25 => ?_) (fun c_25 => ?_)
      · skip
        rw [li_0] at c_25
        have c_25 := (k_le (by have := k_clamp_lt (cs 0 8 0); omega)).mp c_25
        refine lv_aload_n hx hb dX5_line_71 rfl (lv_at hl 1 rfl) ?_
        refine gt_X5_39 hc dX5_line_72 hM hW.o rfl ?_
        refine k_V1 hc [] cw_X5_283 rfl dX5_line_75 (c_X2_length l hlf g _ x (itr (liS i) (upS cs 4 0) k) hW) hW.li hM hS hl.1 rfl rfl ⟨Nat.le_of_ble_eq_true rfl, Nat.le_of_ble_eq_true rfl⟩ ⟨Nat.le_of_ble_eq_true rfl, Nat.le_of_ble_eq_true rfl⟩ (Nat.le_of_ble_eq_true rfl) (fun H locs hM hS => ?_)
        refine lv_if_ne (tgt := 91) hx hb dX5_line_78 (by decide) (fun c_78 => ?_) (fun c_78 => ?_)
        · skip
          refine lv_aload_n hx hb dX5_line_91 rfl (lv_at hl 1 rfl) ?_
          refine gt_X5_39 hc dX5_line_92 hM hW.o rfl ?_
          refine k_V1 hc [] cw_X5_283 rfl dX5_line_95 (c_X2_length l hlf g _ x (itr (liS i) (upS cs 4 0) k) hW) hW.li hM hS hl.1 rfl rfl ⟨Nat.le_of_ble_eq_true rfl, Nat.le_of_ble_eq_true rfl⟩ ⟨Nat.le_of_ble_eq_true rfl, Nat.le_of_ble_eq_true rfl⟩ (Nat.le_of_ble_eq_true rfl) (fun H locs hM hS => ?_)
          exact k_iret hc hr dX5_line_98 hM hS (Nat.le_of_ble_eq_true rfl) (Nat.le_of_ble_eq_true rfl) (by first | (simp only [eq_true q_2_0, eq_true c_25, eq_false c_78, not_false_eq_true, not_true_eq_false, and_true, true_and, and_false, false_and, and_self, ↓reduceIte, or_true, true_or, or_self, or_false, false_or]; done) | (have hk : k = (cs 0 8 0).toNatClampNeg := by omega
    subst hk
    have e1 : li1 cs i = itr (liS i) (upS cs 4 0) (cs 0 8 0).toNatClampNeg := rfl
    simp only [li2, e1, eq_true q_2_0, eq_true c_25, eq_false c_78, not_false_eq_true, not_true_eq_false, and_true, true_and, and_false, false_and, and_self, ↓reduceIte, or_true, true_or, or_self, or_false, false_or]; try rfl))
        · skip
          refine lv_aload_n hx hb dX5_line_81 rfl (lv_at hl 1 rfl) ?_
          refine gt_X5_39 hc dX5_line_82 hM hW.o rfl ?_
          refine k_ldcW hx hb hc.2.2.2.1 (k_strN hc 8 tx_8) dX5_line_85 ?_
          refine k_V0 hc [.ref (g.2.2.2.1 8)] cw_X5_288 rfl dX5_line_88 (c_X2_putWord l hlf g _ x (itr (liS i) (upS cs 4 0) k) 8 blB hW (by assumption) (by assumption)) hW.li hM hS hl.1 rfl rfl ⟨Nat.le_of_ble_eq_true rfl, Nat.le_of_ble_eq_true rfl⟩ ⟨Nat.le_of_ble_eq_true rfl, Nat.le_of_ble_eq_true rfl⟩ (Nat.le_of_ble_eq_true rfl) (fun H locs hM hS => ?_)
          have hM := hR.eq hM putC_putC
          have hW := ClsAt.put (g := g) (M := M) (x := x) (cs := (lwS blB (itr (liS i) (upS cs 4 0) k) blB.length))
          refine lv_aload_n hx hb dX5_line_91 rfl (lv_at hl 1 rfl) ?_
          refine gt_X5_39 hc dX5_line_92 hM hW.o rfl ?_
          refine k_V1 hc [] cw_X5_283 rfl dX5_line_95 (c_X2_length l hlf g _ x (lwS blB (itr (liS i) (upS cs 4 0) k) blB.length) hW) hW.li hM hS hl.1 rfl rfl ⟨Nat.le_of_ble_eq_true rfl, Nat.le_of_ble_eq_true rfl⟩ ⟨Nat.le_of_ble_eq_true rfl, Nat.le_of_ble_eq_true rfl⟩ (Nat.le_of_ble_eq_true rfl) (fun H locs hM hS => ?_)
          exact k_iret hc hr dX5_line_98 hM hS (Nat.le_of_ble_eq_true rfl) (Nat.le_of_ble_eq_true rfl) (by first | (simp only [eq_true q_2_0, eq_true c_25, eq_true c_78, not_false_eq_true, not_true_eq_false, and_true, true_and, and_false, false_and, and_self, ↓reduceIte, or_true, true_or, or_self, or_false, false_or]; done) | (have hk : k = (cs 0 8 0).toNatClampNeg := by omega
    subst hk
    have e1 : li1 cs i = itr (liS i) (upS cs 4 0) (cs 0 8 0).toNatClampNeg := rfl
    simp only [li2, e1, eq_true q_2_0, eq_true c_25, eq_true c_78, not_false_eq_true, not_true_eq_false, and_true, true_and, and_false, false_and, and_self, ↓reduceIte, or_true, true_or, or_self, or_false, false_or]; try rfl))
      · skip
        rw [li_0] at c_25
        have c_25 : ¬ (cs 0 8 0).toNatClampNeg ≤ k := fun h => c_25 ((k_le (by have := k_clamp_lt (cs 0 8 0); omega)).mpr h)
        refine lv_aload_n hx hb dX5_line_28 rfl (lv_at hl 1 rfl) ?_
        refine gt_X5_10 hc dX5_line_29 hM hW.o rfl ?_
        refine lv_iload_n hx hb dX5_line_32 rfl (lv_at hl 0 rfl) ?_
        refine lv_iload_n hx hb dX5_line_33 rfl (lv_at hl 2 rfl) ?_
        refine k_V1 hc [.int (nI k), .int i] cw_X5_163 rfl dX5_line_34 (c_X0_drawnPlace l hlf g _ (x + 1) ((itr (liS i) (upS cs 4 0) k) 0) (nI k) i (hW.flat (k := 0) (a := x + 1) (by decide) rfl)) (hW.flat (k := 0) (a := x + 1) (by decide) rfl).o hM hS hl.1 rfl rfl ⟨Nat.le_of_ble_eq_true rfl, Nat.le_of_ble_eq_true rfl⟩ ⟨Nat.le_of_ble_eq_true rfl, Nat.le_of_ble_eq_true rfl⟩ (Nat.le_of_ble_eq_true rfl) (fun H locs hM hS => ?_)
        refine lv_istore_n (lv' := [(3, .int (drawnF ((itr (liS i) (upS cs 4 0) k) 0) (nI k) i)), (2, .int (nI k)), (0, .ref x), (1, .int i)]) hx hb dX5_line_37 rfl hl (by decide) rfl (fun ls hl => ?_)
        refine lv_iload_n hx hb dX5_line_38 rfl (lv_at hl 0 rfl) ?_
        refine lv_iconst (v := (-1)) hx hb dX5_line_39 (by decide) ?_
        refine lv_icmp_eq (tgt := 65) hx hb dX5_line_40 (by decide) (fun c_40 => ?_) (fun c_40 => ?_)
        · skip
          refine lv_iinc (v := (nI (k + 1))) (lv' := [(2, .int (nI (k + 1))), (3, .int (drawnF ((itr (liS i) (upS cs 4 0) k) 0) (nI k) i)), (0, .ref x), (1, .int i)]) hx hb dX5_line_65 hl (k := 1) rfl (k_inc1 _) (by decide) rfl (fun ls hl => ?_)
          refine lv_goto (tgt := 14) hx hb dX5_line_68 (by decide) ?_
          have hM : hR g (putC g M x (itr (liS i) (upS cs 4 0) (k + 1))) _ := hR.eq hM (congrArg (putC g M x) (by rw [itr_s]; simp only [liS, eq_true q_2_0, eq_false c_25, eq_true c_40, not_false_eq_true, not_true_eq_false, and_true, true_and, and_false, false_and, and_self, ↓reduceIte, or_true, true_or, or_self, or_false, false_or]))
          exact ih_14 (k + 1) (by omega) (by omega) ls _ _ hM hS (lv_sub hl [0, 2, 3] rfl)
        · skip
          refine lv_aload_n hx hb dX5_line_43 rfl (lv_at hl 2 rfl) ?_
          refine gt_X5_39 hc dX5_line_44 hM hW.o rfl ?_
          refine lv_iload_n hx hb dX5_line_47 rfl (lv_at hl 1 rfl) ?_
          refine lv_iload_n hx hb dX5_line_48 rfl (lv_at hl 0 rfl) ?_
          refine lv_iload_n hx hb dX5_line_49 rfl (lv_at hl 0 rfl) ?_
          refine lv_aload_n hx hb dX5_line_50 rfl (lv_at hl 2 rfl) ?_
          refine gt_X5_10 hc dX5_line_51 hM hW.o rfl ?_
          refine gt_X5_116 hc dX5_line_54 hM (hW.flat (k := 0) (a := x + 1) (by decide) rfl).o rfl ?_
          refine lv_iload_n hx hb dX5_line_57 rfl (lv_at hl 1 rfl) ?_
          refine k_V1 hc [.int (nI k)] cw_X5_120 rfl dX5_line_58 (c_X3_get l hlf g _ (x + 2) 10 ((itr (liS i) (upS cs 4 0) k) 0 8 0) ((itr (liS i) (upS cs 4 0) k) 0 0) (nI k) ((hW.flat (k := 0) (a := x + 1) (by decide) rfl).row (k := 0) (r := x + 2) (by decide) rfl rfl) (by decide)) ((hW.flat (k := 0) (a := x + 1) (by decide) rfl).row (k := 0) (r := x + 2) (by decide) rfl rfl).1 hM hS hl.1 rfl rfl ⟨Nat.le_of_ble_eq_true rfl, Nat.le_of_ble_eq_true rfl⟩ ⟨Nat.le_of_ble_eq_true rfl, Nat.le_of_ble_eq_true rfl⟩ (Nat.le_of_ble_eq_true rfl) (fun H locs hM hS => ?_)
          refine lv_isub hx hb dX5_line_61 ?_
          refine k_V0 hc [.int (nI k), .int (drawnF ((itr (liS i) (upS cs 4 0) k) 0) (nI k) i), .int ((drawnF ((itr (liS i) (upS cs 4 0) k) 0) (nI k) i) - (rget 10 ((itr (liS i) (upS cs 4 0) k) 0 8 0) ((itr (liS i) (upS cs 4 0) k) 0 0) (nI k)))] cw_X5_279 rfl dX5_line_62 (c_X2_putStake l hlf g _ x (itr (liS i) (upS cs 4 0) k) (nI k) (drawnF ((itr (liS i) (upS cs 4 0) k) 0) (nI k) i) ((drawnF ((itr (liS i) (upS cs 4 0) k) 0) (nI k) i) - (rget 10 ((itr (liS i) (upS cs 4 0) k) 0 8 0) ((itr (liS i) (upS cs 4 0) k) 0 0) (nI k))) hW) hW.li hM hS hl.1 rfl rfl ⟨Nat.le_of_ble_eq_true rfl, Nat.le_of_ble_eq_true rfl⟩ ⟨Nat.le_of_ble_eq_true rfl, Nat.le_of_ble_eq_true rfl⟩ (Nat.le_of_ble_eq_true rfl) (fun H locs hM hS => ?_)
          have hM := hR.eq hM putC_putC
          have hW := ClsAt.put (g := g) (M := M) (x := x) (cs := (lkS (itr (liS i) (upS cs 4 0) k) (nI k) (drawnF ((itr (liS i) (upS cs 4 0) k) 0) (nI k) i) ((drawnF ((itr (liS i) (upS cs 4 0) k) 0) (nI k) i) - (rget 10 ((itr (liS i) (upS cs 4 0) k) 0 8 0) ((itr (liS i) (upS cs 4 0) k) 0 0) (nI k)))))
          refine lv_iinc (v := (nI (k + 1))) (lv' := [(2, .int (nI (k + 1))), (3, .int (drawnF ((itr (liS i) (upS cs 4 0) k) 0) (nI k) i)), (0, .ref x), (1, .int i)]) hx hb dX5_line_65 hl (k := 1) rfl (k_inc1 _) (by decide) rfl (fun ls hl => ?_)
          refine lv_goto (tgt := 14) hx hb dX5_line_68 (by decide) ?_
          have hM : hR g (putC g M x (itr (liS i) (upS cs 4 0) (k + 1))) _ := hR.eq hM (congrArg (putC g M x) (by rw [itr_s]; simp only [liS, eq_true q_2_0, eq_false c_25, eq_false c_40, not_false_eq_true, not_true_eq_false, and_true, true_and, and_false, false_and, and_self, ↓reduceIte, or_true, true_or, or_self, or_false, false_or]))
          exact ih_14 (k + 1) (by omega) (by omega) ls _ _ hM hS (lv_sub hl [0, 2, 3] rfl)
  have z_2 : 0 = (nI 0) := rfl
  have hl := lv_chg (lv_sub hl [0, 1, 2] rfl) z_2
  exact lp_14 ((cs 0 8 0).toNatClampNeg + 1) 0 (by omega) (by omega) ls _ _ hM hS (lv_sub hl [0, 1, 2] rfl)
set_option maxHeartbeats 4000000 in
set_option maxRecDepth 100000 in
theorem c_X5_character (l : Launch) (hlf : l.stackTraces = false) (g : GC) (M : HM) (x : Nat) (cs : CS) (i : Int32) (hW : ClsAt g M x cs) (ht : lsOk cs) (h9 : cs 11 3 4 ≤ nI 79) : KM g l yX5_character cX5_character 2 (some .char) 6 3 18 [.ref x, .int i] M (if ¬ i < 0 ∧ i < cs 11 3 4 then .inl (some (.int (cs 11 2 (i).toNatClampNeg)), M) else .inr ("java/lang/IndexOutOfBoundsException", M)) := by
  refine k_meth hlf (by decide) (Nat.le_of_ble_eq_true rfl) fun p e s m below meth c ls hc hr hnx hM hS hl => ?_
  have hc : Cx g p l s m [.ref x, .int i].toArray meth c cX5_character 2 RX5 := hc
  have hx := hc.1
  have hb := hc.2.1
  have hl : lv_has ls 2 [(0, .ref x), (1, .int i)] := hl
  refine lv_iload_n hx hb dX5_character_0 rfl (lv_at hl 1 rfl) ?_
  refine lv_if_lt (tgt := 15) hx hb dX5_character_1 (by decide) (fun c_1 => ?_) (fun c_1 => ?_)
  · skip
    exact k_throwW hc hnx th_IndexOutOfBoundsException 27 tx_27 hM hS hl.1 dX5_character_15 dX5_character_18 dX5_character_19 dX5_character_22 dX5_character_25 ⟨Nat.le_of_ble_eq_true rfl, Nat.le_of_ble_eq_true rfl, Nat.le_of_ble_eq_true rfl, Nat.le_of_ble_eq_true rfl⟩ (Nat.le_of_ble_eq_true rfl) (Nat.le_of_ble_eq_true rfl) (by first | (simp only [eq_true c_1, not_false_eq_true, not_true_eq_false, and_true, true_and, and_false, false_and, and_self, ↓reduceIte, or_true, true_or, or_self, or_false, false_or]; done) | (simp only [eq_true c_1, not_false_eq_true, not_true_eq_false, and_true, true_and, and_false, false_and, and_self, ↓reduceIte, or_true, true_or, or_self, or_false, false_or]; rfl))
  · skip
    refine lv_iload_n hx hb dX5_character_4 rfl (lv_at hl 1 rfl) ?_
    refine lv_aload_n hx hb dX5_character_5 rfl (lv_at hl 0 rfl) ?_
    refine gt_X5_39 hc dX5_character_6 hM hW.o rfl ?_
    refine k_V1 hc [] cw_X5_283 rfl dX5_character_9 (c_X2_length l hlf g _ x cs hW) hW.li hM hS hl.1 rfl rfl ⟨Nat.le_of_ble_eq_true rfl, Nat.le_of_ble_eq_true rfl⟩ ⟨Nat.le_of_ble_eq_true rfl, Nat.le_of_ble_eq_true rfl⟩ (Nat.le_of_ble_eq_true rfl) (fun H locs hM hS => ?_)
    refine lv_icmp_lt (tgt := 26) hx hb dX5_character_12 (by decide) (fun c_12 => ?_) (fun c_12 => ?_)
    · skip
      refine lv_aload_n hx hb dX5_character_26 rfl (lv_at hl 0 rfl) ?_
      refine gt_X5_39 hc dX5_character_27 hM hW.o rfl ?_
      refine lv_iload_n hx hb dX5_character_30 rfl (lv_at hl 1 rfl) ?_
      refine k_V1 hc [.int i] cw_X5_296 rfl dX5_character_31 (c_X2_signAt l hlf g _ x cs i hW ht) hW.li hM hS hl.1 rfl rfl ⟨Nat.le_of_ble_eq_true rfl, Nat.le_of_ble_eq_true rfl⟩ ⟨Nat.le_of_ble_eq_true rfl, Nat.le_of_ble_eq_true rfl⟩ (Nat.le_of_ble_eq_true rfl) (fun H locs hM hS => ?_)
      exact k_zret hc hr dX5_character_34 hM hS (by first | rfl | exact bI_n) (Nat.le_of_ble_eq_true rfl) (Nat.le_of_ble_eq_true rfl) (by first | (simp only [eq_false c_1, eq_true c_12, not_false_eq_true, not_true_eq_false, and_true, true_and, and_false, false_and, and_self, ↓reduceIte, or_true, true_or, or_self, or_false, false_or]; done) | (simp only [eq_false c_1, eq_true c_12, not_false_eq_true, not_true_eq_false, and_true, true_and, and_false, false_and, and_self, ↓reduceIte, or_true, true_or, or_self, or_false, false_or]; rfl))
    · skip
      exact k_throwW hc hnx th_IndexOutOfBoundsException 27 tx_27 hM hS hl.1 dX5_character_15 dX5_character_18 dX5_character_19 dX5_character_22 dX5_character_25 ⟨Nat.le_of_ble_eq_true rfl, Nat.le_of_ble_eq_true rfl, Nat.le_of_ble_eq_true rfl, Nat.le_of_ble_eq_true rfl⟩ (Nat.le_of_ble_eq_true rfl) (Nat.le_of_ble_eq_true rfl) (by first | (simp only [eq_false c_1, eq_false c_12, not_false_eq_true, not_true_eq_false, and_true, true_and, and_false, false_and, and_self, ↓reduceIte, or_true, true_or, or_self, or_false, false_or]; done) | (simp only [eq_false c_1, eq_false c_12, not_false_eq_true, not_true_eq_false, and_true, true_and, and_false, false_and, and_self, ↓reduceIte, or_true, true_or, or_self, or_false, false_or]; rfl))
set_option maxHeartbeats 4000000 in
set_option maxRecDepth 100000 in
theorem c_X5_meanThirst (l : Launch) (hlf : l.stackTraces = false) (g : GC) (M : HM) (x : Nat) (cs : CS) (hW : ClsAt g M x cs) (hf : 0 < cs 0 8 4 → vf_n32 (FP.fdiv (FP.i2f (rsum 6 (cs 0 8 5) (cs 0 5))) (FP.i2f (cs 0 8 4)))) : KM g l yX5_meanThirst cX5_meanThirst 2 (some .float) 6 3 18 [.ref x] M (if 0 < cs 0 8 4 then .inl (some (.float (FP.fdiv (FP.i2f (rsum 6 (cs 0 8 5) (cs 0 5))) (FP.i2f (cs 0 8 4)))), M) else .inr ("java/lang/ArithmeticException", M)) := by
  refine k_meth hlf (by decide) (Nat.le_of_ble_eq_true rfl) fun p e s m below meth c ls hc hr hnx hM hS hl => ?_
  have hc : Cx g p l s m [.ref x].toArray meth c cX5_meanThirst 2 RX5 := hc
  have hx := hc.1
  have hb := hc.2.1
  have hl : lv_has ls 2 [(0, .ref x)] := hl
  refine lv_aload_n hx hb dX5_meanThirst_0 rfl (lv_at hl 0 rfl) ?_
  refine gt_X5_10 hc dX5_meanThirst_1 hM hW.o rfl ?_
  refine gt_X5_137 hc dX5_meanThirst_4 hM (hW.flat (k := 0) (a := x + 1) (by decide) rfl).o rfl ?_
  refine k_V1 hc [] cw_X5_171 rfl dX5_meanThirst_7 (c_X3_size l hlf g _ (x + 10) 6 (cs 0 8 4) (cs 0 4) ((hW.flat (k := 0) (a := x + 1) (by decide) rfl).row (k := 4) (r := x + 10) (by decide) rfl rfl)) ((hW.flat (k := 0) (a := x + 1) (by decide) rfl).row (k := 4) (r := x + 10) (by decide) rfl rfl).1 hM hS hl.1 rfl rfl ⟨Nat.le_of_ble_eq_true rfl, Nat.le_of_ble_eq_true rfl⟩ ⟨Nat.le_of_ble_eq_true rfl, Nat.le_of_ble_eq_true rfl⟩ (Nat.le_of_ble_eq_true rfl) (fun H locs hM hS => ?_)
  refine lv_istore_n (lv' := [(1, .int (cs 0 8 4)), (0, .ref x)]) hx hb dX5_meanThirst_10 rfl hl (by decide) rfl (fun ls hl => ?_)
  refine lv_iload_n hx hb dX5_meanThirst_11 rfl (lv_at hl 0 rfl) ?_
  refine lv_if_gt (tgt := 25) hx hb dX5_meanThirst_12 (by decide) (fun c_12 => ?_) (fun c_12 => ?_)
  · skip
    refine lv_aload_n hx hb dX5_meanThirst_25 rfl (lv_at hl 1 rfl) ?_
    refine gt_X5_10 hc dX5_meanThirst_26 hM hW.o rfl ?_
    refine gt_X5_140 hc dX5_meanThirst_29 hM (hW.flat (k := 0) (a := x + 1) (by decide) rfl).o rfl ?_
    refine k_V1 hc [] cw_X5_303 rfl dX5_meanThirst_32 (c_X3_sum l hlf g _ (x + 12) 6 (cs 0 8 5) (cs 0 5) ((hW.flat (k := 0) (a := x + 1) (by decide) rfl).row (k := 5) (r := x + 12) (by decide) rfl rfl) (by decide)) ((hW.flat (k := 0) (a := x + 1) (by decide) rfl).row (k := 5) (r := x + 12) (by decide) rfl rfl).1 hM hS hl.1 rfl rfl ⟨Nat.le_of_ble_eq_true rfl, Nat.le_of_ble_eq_true rfl⟩ ⟨Nat.le_of_ble_eq_true rfl, Nat.le_of_ble_eq_true rfl⟩ (Nat.le_of_ble_eq_true rfl) (fun H locs hM hS => ?_)
    refine lv_i2f hx hb dX5_meanThirst_35 ?_
    refine lv_iload_n hx hb dX5_meanThirst_36 rfl (lv_at hl 0 rfl) ?_
    refine lv_i2f hx hb dX5_meanThirst_37 ?_
    refine lv_fdiv hx hb dX5_meanThirst_38 (hf c_12) ?_
    exact k_fret hc hr dX5_meanThirst_39 hM hS (Nat.le_of_ble_eq_true rfl) (Nat.le_of_ble_eq_true rfl) (by first | (simp only [eq_true c_12, not_false_eq_true, not_true_eq_false, and_true, true_and, and_false, false_and, and_self, ↓reduceIte, or_true, true_or, or_self, or_false, false_or]; done) | (simp only [eq_true c_12, not_false_eq_true, not_true_eq_false, and_true, true_and, and_false, false_and, and_self, ↓reduceIte, or_true, true_or, or_self, or_false, false_or]; rfl))
  · skip
    exact k_throw hc hnx th_ArithmeticException 22 tx_22 hM hS hl.1 dX5_meanThirst_15 dX5_meanThirst_18 dX5_meanThirst_19 dX5_meanThirst_21 dX5_meanThirst_24 ⟨Nat.le_of_ble_eq_true rfl, Nat.le_of_ble_eq_true rfl, Nat.le_of_ble_eq_true rfl, Nat.le_of_ble_eq_true rfl⟩ (Nat.le_of_ble_eq_true rfl) (Nat.le_of_ble_eq_true rfl) (by first | (simp only [eq_false c_12, not_false_eq_true, not_true_eq_false, and_true, true_and, and_false, false_and, and_self, ↓reduceIte, or_true, true_or, or_self, or_false, false_or]; done) | (simp only [eq_false c_12, not_false_eq_true, not_true_eq_false, and_true, true_and, and_false, false_and, and_self, ↓reduceIte, or_true, true_or, or_self, or_false, false_or]; rfl))
set_option maxHeartbeats 4000000 in
set_option maxRecDepth 100000 in
theorem c_X5_rightShare (l : Launch) (hlf : l.stackTraces = false) (g : GC) (M : HM) (x : Nat) (cs : CS) (hW : ClsAt g M x cs) (hf : 0 < cdF (cs 0) 0 → vf_n64 (FP.ddiv (FP.i2d (cdF (cs 0) 1)) (FP.i2d (cdF (cs 0) 0)))) : KM g l yX5_rightShare cX5_rightShare 2 (some .double) 6 3 18 [.ref x] M (if 0 < cdF (cs 0) 0 then .inl (some (.double (FP.ddiv (FP.i2d (cdF (cs 0) 1)) (FP.i2d (cdF (cs 0) 0)))), M) else .inr ("java/lang/ArithmeticException", M)) := by
  refine k_meth hlf (by decide) (Nat.le_of_ble_eq_true rfl) fun p e s m below meth c ls hc hr hnx hM hS hl => ?_
  have hc : Cx g p l s m [.ref x].toArray meth c cX5_rightShare 2 RX5 := hc
  have hx := hc.1
  have hb := hc.2.1
  have hl : lv_has ls 2 [(0, .ref x)] := hl
  refine lv_aload_n hx hb dX5_rightShare_0 rfl (lv_at hl 0 rfl) ?_
  refine gt_X5_10 hc dX5_rightShare_1 hM hW.o rfl ?_
  refine lv_iconst (v := 0) hx hb dX5_rightShare_4 (by decide) ?_
  refine k_V1 hc [.int 0] cw_X5_306 rfl dX5_rightShare_5 (c_X0_countDrawn l hlf g _ (x + 1) (cs 0) 0 (hW.flat (k := 0) (a := x + 1) (by decide) rfl)) (hW.flat (k := 0) (a := x + 1) (by decide) rfl).o hM hS hl.1 rfl rfl ⟨Nat.le_of_ble_eq_true rfl, Nat.le_of_ble_eq_true rfl⟩ ⟨Nat.le_of_ble_eq_true rfl, Nat.le_of_ble_eq_true rfl⟩ (Nat.le_of_ble_eq_true rfl) (fun H locs hM hS => ?_)
  refine lv_istore_n (lv' := [(1, .int (cdF (cs 0) 0)), (0, .ref x)]) hx hb dX5_rightShare_8 rfl hl (by decide) rfl (fun ls hl => ?_)
  refine lv_iload_n hx hb dX5_rightShare_9 rfl (lv_at hl 0 rfl) ?_
  refine lv_if_gt (tgt := 24) hx hb dX5_rightShare_10 (by decide) (fun c_10 => ?_) (fun c_10 => ?_)
  · skip
    refine lv_aload_n hx hb dX5_rightShare_24 rfl (lv_at hl 1 rfl) ?_
    refine gt_X5_10 hc dX5_rightShare_25 hM hW.o rfl ?_
    refine lv_iconst (v := 1) hx hb dX5_rightShare_28 (by decide) ?_
    refine k_V1 hc [.int 1] cw_X5_306 rfl dX5_rightShare_29 (c_X0_countDrawn l hlf g _ (x + 1) (cs 0) 1 (hW.flat (k := 0) (a := x + 1) (by decide) rfl)) (hW.flat (k := 0) (a := x + 1) (by decide) rfl).o hM hS hl.1 rfl rfl ⟨Nat.le_of_ble_eq_true rfl, Nat.le_of_ble_eq_true rfl⟩ ⟨Nat.le_of_ble_eq_true rfl, Nat.le_of_ble_eq_true rfl⟩ (Nat.le_of_ble_eq_true rfl) (fun H locs hM hS => ?_)
    refine lv_i2d hx hb dX5_rightShare_32 ?_
    refine lv_iload_n hx hb dX5_rightShare_33 rfl (lv_at hl 0 rfl) ?_
    refine lv_i2d hx hb dX5_rightShare_34 ?_
    refine lv_ddiv hx hb dX5_rightShare_35 (hf c_10) ?_
    exact k_dret hc hr dX5_rightShare_36 hM hS (Nat.le_of_ble_eq_true rfl) (Nat.le_of_ble_eq_true rfl) (by first | (simp only [eq_true c_10, not_false_eq_true, not_true_eq_false, and_true, true_and, and_false, false_and, and_self, ↓reduceIte, or_true, true_or, or_self, or_false, false_or]; done) | (simp only [eq_true c_10, not_false_eq_true, not_true_eq_false, and_true, true_and, and_false, false_and, and_self, ↓reduceIte, or_true, true_or, or_self, or_false, false_or]; rfl))
  · skip
    exact k_throwW hc hnx th_ArithmeticException 28 tx_28 hM hS hl.1 dX5_rightShare_13 dX5_rightShare_16 dX5_rightShare_17 dX5_rightShare_20 dX5_rightShare_23 ⟨Nat.le_of_ble_eq_true rfl, Nat.le_of_ble_eq_true rfl, Nat.le_of_ble_eq_true rfl, Nat.le_of_ble_eq_true rfl⟩ (Nat.le_of_ble_eq_true rfl) (Nat.le_of_ble_eq_true rfl) (by first | (simp only [eq_false c_10, not_false_eq_true, not_true_eq_false, and_true, true_and, and_false, false_and, and_self, ↓reduceIte, or_true, true_or, or_self, or_false, false_or]; done) | (simp only [eq_false c_10, not_false_eq_true, not_true_eq_false, and_true, true_and, and_false, false_and, and_self, ↓reduceIte, or_true, true_or, or_self, or_false, false_or]; rfl))
set_option maxHeartbeats 4000000 in
set_option maxRecDepth 100000 in
theorem c_X5_account (l : Launch) (hlf : l.stackTraces = false) (g : GC) (M : HM) (x : Nat) (cs : CS) (w : Int32) (hW : ClsAt g M x cs) : KM g l yX5_account cX5_account 2 (some .int) 6 3 18 [.ref x, .int w] M (if acOk w then .inl (some (.int (acV cs w)), M) else .inr ("java/lang/IllegalArgumentException", M)) := by
  refine k_meth hlf (by decide) (Nat.le_of_ble_eq_true rfl) fun p e s m below meth c ls hc hr hnx hM hS hl => ?_
  have hc : Cx g p l s m [.ref x, .int w].toArray meth c cX5_account 2 RX5 := hc
  have hx := hc.1
  have hb := hc.2.1
  have hl : lv_has ls 2 [(0, .ref x), (1, .int w)] := hl
  refine lv_iload_n hx hb dX5_account_0 rfl (lv_at hl 1 rfl) ?_
  by_cases c_1_0 : w = 0
  · skip
    have e_1 : w.toInt = 0 := by rw [c_1_0]; rfl
    refine lv_tableIn (tgt := 84) hx hb dX5_account_1 (by rw [e_1]; decide) (by rw [e_1]; decide) (by rw [e_1]; rfl) (by decide) ?_
    refine lv_aload_n hx hb dX5_account_84 rfl (lv_at hl 0 rfl) ?_
    refine gt_X5_10 hc dX5_account_85 hM hW.o rfl ?_
    refine gt_X5_204 hc dX5_account_88 hM (hW.flat (k := 0) (a := x + 1) (by decide) rfl).o rfl ?_
    exact k_iret hc hr dX5_account_91 hM hS (Nat.le_of_ble_eq_true rfl) (Nat.le_of_ble_eq_true rfl) (by first | (simp only [acV, acOk, eq_true c_1_0, not_false_eq_true, not_true_eq_false, and_true, true_and, and_false, false_and, and_self, ↓reduceIte, or_true, true_or, or_self, or_false, false_or]; done) | (simp only [acV, acOk, eq_true c_1_0, not_false_eq_true, not_true_eq_false, and_true, true_and, and_false, false_and, and_self, ↓reduceIte, or_true, true_or, or_self, or_false, false_or]; rfl))
  by_cases c_1_1 : w = 1
  · skip
    have e_1 : w.toInt = 1 := by rw [c_1_1]; rfl
    refine lv_tableIn (tgt := 92) hx hb dX5_account_1 (by rw [e_1]; decide) (by rw [e_1]; decide) (by rw [e_1]; rfl) (by decide) ?_
    refine lv_aload_n hx hb dX5_account_92 rfl (lv_at hl 0 rfl) ?_
    refine gt_X5_10 hc dX5_account_93 hM hW.o rfl ?_
    refine gt_X5_204 hc dX5_account_96 hM (hW.flat (k := 0) (a := x + 1) (by decide) rfl).o rfl ?_
    refine lv_bipush (v := 24) hx hb dX5_account_99 (by decide) ?_
    refine lv_irem hx hb dX5_account_101 (by decide) ?_
    exact k_iret hc hr dX5_account_102 hM hS (Nat.le_of_ble_eq_true rfl) (Nat.le_of_ble_eq_true rfl) (by first | (simp only [acV, acOk, eq_false c_1_0, eq_true c_1_1, not_false_eq_true, not_true_eq_false, and_true, true_and, and_false, false_and, and_self, ↓reduceIte, or_true, true_or, or_self, or_false, false_or]; done) | (simp only [acV, acOk, eq_false c_1_0, eq_true c_1_1, not_false_eq_true, not_true_eq_false, and_true, true_and, and_false, false_and, and_self, ↓reduceIte, or_true, true_or, or_self, or_false, false_or]; rfl))
  by_cases c_1_2 : w = 2
  · skip
    have e_1 : w.toInt = 2 := by rw [c_1_2]; rfl
    refine lv_tableIn (tgt := 103) hx hb dX5_account_1 (by rw [e_1]; decide) (by rw [e_1]; decide) (by rw [e_1]; rfl) (by decide) ?_
    refine lv_aload_n hx hb dX5_account_103 rfl (lv_at hl 0 rfl) ?_
    refine gt_X5_10 hc dX5_account_104 hM hW.o rfl ?_
    refine k_V1 hc [] cw_X5_185 rfl dX5_account_107 (c_X0_heatNow l hlf g _ (x + 1) (cs 0) (hW.flat (k := 0) (a := x + 1) (by decide) rfl)) (hW.flat (k := 0) (a := x + 1) (by decide) rfl).o hM hS hl.1 rfl rfl ⟨Nat.le_of_ble_eq_true rfl, Nat.le_of_ble_eq_true rfl⟩ ⟨Nat.le_of_ble_eq_true rfl, Nat.le_of_ble_eq_true rfl⟩ (Nat.le_of_ble_eq_true rfl) (fun H locs hM hS => ?_)
    exact k_iret hc hr dX5_account_110 hM hS (Nat.le_of_ble_eq_true rfl) (Nat.le_of_ble_eq_true rfl) (by first | (simp only [acV, acOk, eq_false c_1_0, eq_false c_1_1, eq_true c_1_2, not_false_eq_true, not_true_eq_false, and_true, true_and, and_false, false_and, and_self, ↓reduceIte, or_true, true_or, or_self, or_false, false_or]; done) | (simp only [acV, acOk, eq_false c_1_0, eq_false c_1_1, eq_true c_1_2, not_false_eq_true, not_true_eq_false, and_true, true_and, and_false, false_and, and_self, ↓reduceIte, or_true, true_or, or_self, or_false, false_or]; rfl))
  by_cases c_1_3 : w = 3
  · skip
    have e_1 : w.toInt = 3 := by rw [c_1_3]; rfl
    refine lv_tableIn (tgt := 111) hx hb dX5_account_1 (by rw [e_1]; decide) (by rw [e_1]; decide) (by rw [e_1]; rfl) (by decide) ?_
    refine lv_aload_n hx hb dX5_account_111 rfl (lv_at hl 0 rfl) ?_
    refine gt_X5_10 hc dX5_account_112 hM hW.o rfl ?_
    refine gt_X5_312 hc dX5_account_115 hM (hW.flat (k := 0) (a := x + 1) (by decide) rfl).o rfl ?_
    exact k_iret hc hr dX5_account_118 hM hS (Nat.le_of_ble_eq_true rfl) (Nat.le_of_ble_eq_true rfl) (by first | (simp only [acV, acOk, eq_false c_1_0, eq_false c_1_1, eq_false c_1_2, eq_true c_1_3, not_false_eq_true, not_true_eq_false, and_true, true_and, and_false, false_and, and_self, ↓reduceIte, or_true, true_or, or_self, or_false, false_or]; done) | (simp only [acV, acOk, eq_false c_1_0, eq_false c_1_1, eq_false c_1_2, eq_true c_1_3, not_false_eq_true, not_true_eq_false, and_true, true_and, and_false, false_and, and_self, ↓reduceIte, or_true, true_or, or_self, or_false, false_or]; rfl))
  by_cases c_1_4 : w = 4
  · skip
    have e_1 : w.toInt = 4 := by rw [c_1_4]; rfl
    refine lv_tableIn (tgt := 119) hx hb dX5_account_1 (by rw [e_1]; decide) (by rw [e_1]; decide) (by rw [e_1]; rfl) (by decide) ?_
    refine lv_aload_n hx hb dX5_account_119 rfl (lv_at hl 0 rfl) ?_
    refine gt_X5_10 hc dX5_account_120 hM hW.o rfl ?_
    refine gt_X5_116 hc dX5_account_123 hM (hW.flat (k := 0) (a := x + 1) (by decide) rfl).o rfl ?_
    refine k_V1 hc [] cw_X5_171 rfl dX5_account_126 (c_X3_size l hlf g _ (x + 2) 10 (cs 0 8 0) (cs 0 0) ((hW.flat (k := 0) (a := x + 1) (by decide) rfl).row (k := 0) (r := x + 2) (by decide) rfl rfl)) ((hW.flat (k := 0) (a := x + 1) (by decide) rfl).row (k := 0) (r := x + 2) (by decide) rfl rfl).1 hM hS hl.1 rfl rfl ⟨Nat.le_of_ble_eq_true rfl, Nat.le_of_ble_eq_true rfl⟩ ⟨Nat.le_of_ble_eq_true rfl, Nat.le_of_ble_eq_true rfl⟩ (Nat.le_of_ble_eq_true rfl) (fun H locs hM hS => ?_)
    exact k_iret hc hr dX5_account_129 hM hS (Nat.le_of_ble_eq_true rfl) (Nat.le_of_ble_eq_true rfl) (by first | (simp only [acV, acOk, eq_false c_1_0, eq_false c_1_1, eq_false c_1_2, eq_false c_1_3, eq_true c_1_4, not_false_eq_true, not_true_eq_false, and_true, true_and, and_false, false_and, and_self, ↓reduceIte, or_true, true_or, or_self, or_false, false_or]; done) | (simp only [acV, acOk, eq_false c_1_0, eq_false c_1_1, eq_false c_1_2, eq_false c_1_3, eq_true c_1_4, not_false_eq_true, not_true_eq_false, and_true, true_and, and_false, false_and, and_self, ↓reduceIte, or_true, true_or, or_self, or_false, false_or]; rfl))
  by_cases c_1_5 : w = 5
  · skip
    have e_1 : w.toInt = 5 := by rw [c_1_5]; rfl
    refine lv_tableIn (tgt := 130) hx hb dX5_account_1 (by rw [e_1]; decide) (by rw [e_1]; decide) (by rw [e_1]; rfl) (by decide) ?_
    refine lv_aload_n hx hb dX5_account_130 rfl (lv_at hl 0 rfl) ?_
    refine gt_X5_10 hc dX5_account_131 hM hW.o rfl ?_
    refine gt_X5_131 hc dX5_account_134 hM (hW.flat (k := 0) (a := x + 1) (by decide) rfl).o rfl ?_
    refine k_V1 hc [] cw_X5_171 rfl dX5_account_137 (c_X3_size l hlf g _ (x + 4) 4 (cs 0 8 1) (cs 0 1) ((hW.flat (k := 0) (a := x + 1) (by decide) rfl).row (k := 1) (r := x + 4) (by decide) rfl rfl)) ((hW.flat (k := 0) (a := x + 1) (by decide) rfl).row (k := 1) (r := x + 4) (by decide) rfl rfl).1 hM hS hl.1 rfl rfl ⟨Nat.le_of_ble_eq_true rfl, Nat.le_of_ble_eq_true rfl⟩ ⟨Nat.le_of_ble_eq_true rfl, Nat.le_of_ble_eq_true rfl⟩ (Nat.le_of_ble_eq_true rfl) (fun H locs hM hS => ?_)
    exact k_iret hc hr dX5_account_140 hM hS (Nat.le_of_ble_eq_true rfl) (Nat.le_of_ble_eq_true rfl) (by first | (simp only [acV, acOk, eq_false c_1_0, eq_false c_1_1, eq_false c_1_2, eq_false c_1_3, eq_false c_1_4, eq_true c_1_5, not_false_eq_true, not_true_eq_false, and_true, true_and, and_false, false_and, and_self, ↓reduceIte, or_true, true_or, or_self, or_false, false_or]; done) | (simp only [acV, acOk, eq_false c_1_0, eq_false c_1_1, eq_false c_1_2, eq_false c_1_3, eq_false c_1_4, eq_true c_1_5, not_false_eq_true, not_true_eq_false, and_true, true_and, and_false, false_and, and_self, ↓reduceIte, or_true, true_or, or_self, or_false, false_or]; rfl))
  by_cases c_1_6 : w = 6
  · skip
    have e_1 : w.toInt = 6 := by rw [c_1_6]; rfl
    refine lv_tableIn (tgt := 141) hx hb dX5_account_1 (by rw [e_1]; decide) (by rw [e_1]; decide) (by rw [e_1]; rfl) (by decide) ?_
    refine lv_aload_n hx hb dX5_account_141 rfl (lv_at hl 0 rfl) ?_
    refine gt_X5_10 hc dX5_account_142 hM hW.o rfl ?_
    refine gt_X5_315 hc dX5_account_145 hM (hW.flat (k := 0) (a := x + 1) (by decide) rfl).o rfl ?_
    exact k_iret hc hr dX5_account_148 hM hS (Nat.le_of_ble_eq_true rfl) (Nat.le_of_ble_eq_true rfl) (by first | (simp only [acV, acOk, eq_false c_1_0, eq_false c_1_1, eq_false c_1_2, eq_false c_1_3, eq_false c_1_4, eq_false c_1_5, eq_true c_1_6, not_false_eq_true, not_true_eq_false, and_true, true_and, and_false, false_and, and_self, ↓reduceIte, or_true, true_or, or_self, or_false, false_or]; done) | (simp only [acV, acOk, eq_false c_1_0, eq_false c_1_1, eq_false c_1_2, eq_false c_1_3, eq_false c_1_4, eq_false c_1_5, eq_true c_1_6, not_false_eq_true, not_true_eq_false, and_true, true_and, and_false, false_and, and_self, ↓reduceIte, or_true, true_or, or_self, or_false, false_or]; rfl))
  by_cases c_1_7 : w = 7
  · skip
    have e_1 : w.toInt = 7 := by rw [c_1_7]; rfl
    refine lv_tableIn (tgt := 149) hx hb dX5_account_1 (by rw [e_1]; decide) (by rw [e_1]; decide) (by rw [e_1]; rfl) (by decide) ?_
    refine lv_aload_n hx hb dX5_account_149 rfl (lv_at hl 0 rfl) ?_
    refine gt_X5_10 hc dX5_account_150 hM hW.o rfl ?_
    refine lv_iconst (v := 0) hx hb dX5_account_153 (by decide) ?_
    refine k_V1 hc [.int 0] cw_X5_306 rfl dX5_account_154 (c_X0_countDrawn l hlf g _ (x + 1) (cs 0) 0 (hW.flat (k := 0) (a := x + 1) (by decide) rfl)) (hW.flat (k := 0) (a := x + 1) (by decide) rfl).o hM hS hl.1 rfl rfl ⟨Nat.le_of_ble_eq_true rfl, Nat.le_of_ble_eq_true rfl⟩ ⟨Nat.le_of_ble_eq_true rfl, Nat.le_of_ble_eq_true rfl⟩ (Nat.le_of_ble_eq_true rfl) (fun H locs hM hS => ?_)
    exact k_iret hc hr dX5_account_157 hM hS (Nat.le_of_ble_eq_true rfl) (Nat.le_of_ble_eq_true rfl) (by first | (simp only [acV, acOk, eq_false c_1_0, eq_false c_1_1, eq_false c_1_2, eq_false c_1_3, eq_false c_1_4, eq_false c_1_5, eq_false c_1_6, eq_true c_1_7, not_false_eq_true, not_true_eq_false, and_true, true_and, and_false, false_and, and_self, ↓reduceIte, or_true, true_or, or_self, or_false, false_or]; done) | (simp only [acV, acOk, eq_false c_1_0, eq_false c_1_1, eq_false c_1_2, eq_false c_1_3, eq_false c_1_4, eq_false c_1_5, eq_false c_1_6, eq_true c_1_7, not_false_eq_true, not_true_eq_false, and_true, true_and, and_false, false_and, and_self, ↓reduceIte, or_true, true_or, or_self, or_false, false_or]; rfl))
  by_cases c_1_8 : w = 8
  · skip
    have e_1 : w.toInt = 8 := by rw [c_1_8]; rfl
    refine lv_tableIn (tgt := 158) hx hb dX5_account_1 (by rw [e_1]; decide) (by rw [e_1]; decide) (by rw [e_1]; rfl) (by decide) ?_
    refine lv_aload_n hx hb dX5_account_158 rfl (lv_at hl 0 rfl) ?_
    refine gt_X5_10 hc dX5_account_159 hM hW.o rfl ?_
    refine gt_X5_137 hc dX5_account_162 hM (hW.flat (k := 0) (a := x + 1) (by decide) rfl).o rfl ?_
    refine k_V1 hc [] cw_X5_171 rfl dX5_account_165 (c_X3_size l hlf g _ (x + 10) 6 (cs 0 8 4) (cs 0 4) ((hW.flat (k := 0) (a := x + 1) (by decide) rfl).row (k := 4) (r := x + 10) (by decide) rfl rfl)) ((hW.flat (k := 0) (a := x + 1) (by decide) rfl).row (k := 4) (r := x + 10) (by decide) rfl rfl).1 hM hS hl.1 rfl rfl ⟨Nat.le_of_ble_eq_true rfl, Nat.le_of_ble_eq_true rfl⟩ ⟨Nat.le_of_ble_eq_true rfl, Nat.le_of_ble_eq_true rfl⟩ (Nat.le_of_ble_eq_true rfl) (fun H locs hM hS => ?_)
    exact k_iret hc hr dX5_account_168 hM hS (Nat.le_of_ble_eq_true rfl) (Nat.le_of_ble_eq_true rfl) (by first | (simp only [acV, acOk, eq_false c_1_0, eq_false c_1_1, eq_false c_1_2, eq_false c_1_3, eq_false c_1_4, eq_false c_1_5, eq_false c_1_6, eq_false c_1_7, eq_true c_1_8, not_false_eq_true, not_true_eq_false, and_true, true_and, and_false, false_and, and_self, ↓reduceIte, or_true, true_or, or_self, or_false, false_or]; done) | (simp only [acV, acOk, eq_false c_1_0, eq_false c_1_1, eq_false c_1_2, eq_false c_1_3, eq_false c_1_4, eq_false c_1_5, eq_false c_1_6, eq_false c_1_7, eq_true c_1_8, not_false_eq_true, not_true_eq_false, and_true, true_and, and_false, false_and, and_self, ↓reduceIte, or_true, true_or, or_self, or_false, false_or]; rfl))
  by_cases c_1_9 : w = 9
  · skip
    have e_1 : w.toInt = 9 := by rw [c_1_9]; rfl
    refine lv_tableIn (tgt := 169) hx hb dX5_account_1 (by rw [e_1]; decide) (by rw [e_1]; decide) (by rw [e_1]; rfl) (by decide) ?_
    refine lv_aload_n hx hb dX5_account_169 rfl (lv_at hl 0 rfl) ?_
    refine gt_X5_10 hc dX5_account_170 hM hW.o rfl ?_
    refine gt_X5_143 hc dX5_account_173 hM (hW.flat (k := 0) (a := x + 1) (by decide) rfl).o rfl ?_
    refine k_V1 hc [] cw_X5_303 rfl dX5_account_176 (c_X3_sum l hlf g _ (x + 14) 6 (cs 0 8 6) (cs 0 6) ((hW.flat (k := 0) (a := x + 1) (by decide) rfl).row (k := 6) (r := x + 14) (by decide) rfl rfl) (by decide)) ((hW.flat (k := 0) (a := x + 1) (by decide) rfl).row (k := 6) (r := x + 14) (by decide) rfl rfl).1 hM hS hl.1 rfl rfl ⟨Nat.le_of_ble_eq_true rfl, Nat.le_of_ble_eq_true rfl⟩ ⟨Nat.le_of_ble_eq_true rfl, Nat.le_of_ble_eq_true rfl⟩ (Nat.le_of_ble_eq_true rfl) (fun H locs hM hS => ?_)
    exact k_iret hc hr dX5_account_179 hM hS (Nat.le_of_ble_eq_true rfl) (Nat.le_of_ble_eq_true rfl) (by first | (simp only [acV, acOk, eq_false c_1_0, eq_false c_1_1, eq_false c_1_2, eq_false c_1_3, eq_false c_1_4, eq_false c_1_5, eq_false c_1_6, eq_false c_1_7, eq_false c_1_8, eq_true c_1_9, not_false_eq_true, not_true_eq_false, and_true, true_and, and_false, false_and, and_self, ↓reduceIte, or_true, true_or, or_self, or_false, false_or]; done) | (simp only [acV, acOk, eq_false c_1_0, eq_false c_1_1, eq_false c_1_2, eq_false c_1_3, eq_false c_1_4, eq_false c_1_5, eq_false c_1_6, eq_false c_1_7, eq_false c_1_8, eq_true c_1_9, not_false_eq_true, not_true_eq_false, and_true, true_and, and_false, false_and, and_self, ↓reduceIte, or_true, true_or, or_self, or_false, false_or]; rfl))
  by_cases c_1_10 : w = 10
  · skip
    have e_1 : w.toInt = 10 := by rw [c_1_10]; rfl
    refine lv_tableIn (tgt := 180) hx hb dX5_account_1 (by rw [e_1]; decide) (by rw [e_1]; decide) (by rw [e_1]; rfl) (by decide) ?_
    refine lv_aload_n hx hb dX5_account_180 rfl (lv_at hl 0 rfl) ?_
    refine gt_X5_10 hc dX5_account_181 hM hW.o rfl ?_
    refine k_V1 hc [] cw_X5_318 rfl dX5_account_184 (c_X0_countLost l hlf g _ (x + 1) (cs 0) (hW.flat (k := 0) (a := x + 1) (by decide) rfl)) (hW.flat (k := 0) (a := x + 1) (by decide) rfl).o hM hS hl.1 rfl rfl ⟨Nat.le_of_ble_eq_true rfl, Nat.le_of_ble_eq_true rfl⟩ ⟨Nat.le_of_ble_eq_true rfl, Nat.le_of_ble_eq_true rfl⟩ (Nat.le_of_ble_eq_true rfl) (fun H locs hM hS => ?_)
    exact k_iret hc hr dX5_account_187 hM hS (Nat.le_of_ble_eq_true rfl) (Nat.le_of_ble_eq_true rfl) (by first | (simp only [acV, acOk, eq_false c_1_0, eq_false c_1_1, eq_false c_1_2, eq_false c_1_3, eq_false c_1_4, eq_false c_1_5, eq_false c_1_6, eq_false c_1_7, eq_false c_1_8, eq_false c_1_9, eq_true c_1_10, not_false_eq_true, not_true_eq_false, and_true, true_and, and_false, false_and, and_self, ↓reduceIte, or_true, true_or, or_self, or_false, false_or]; done) | (simp only [acV, acOk, eq_false c_1_0, eq_false c_1_1, eq_false c_1_2, eq_false c_1_3, eq_false c_1_4, eq_false c_1_5, eq_false c_1_6, eq_false c_1_7, eq_false c_1_8, eq_false c_1_9, eq_true c_1_10, not_false_eq_true, not_true_eq_false, and_true, true_and, and_false, false_and, and_self, ↓reduceIte, or_true, true_or, or_self, or_false, false_or]; rfl))
  by_cases c_1_11 : w = 11
  · skip
    have e_1 : w.toInt = 11 := by rw [c_1_11]; rfl
    refine lv_tableIn (tgt := 188) hx hb dX5_account_1 (by rw [e_1]; decide) (by rw [e_1]; decide) (by rw [e_1]; rfl) (by decide) ?_
    refine lv_aload_n hx hb dX5_account_188 rfl (lv_at hl 0 rfl) ?_
    refine gt_X5_10 hc dX5_account_189 hM hW.o rfl ?_
    refine gt_X5_321 hc dX5_account_192 hM (hW.flat (k := 0) (a := x + 1) (by decide) rfl).o rfl ?_
    exact k_iret hc hr dX5_account_195 hM hS (Nat.le_of_ble_eq_true rfl) (Nat.le_of_ble_eq_true rfl) (by first | (simp only [acV, acOk, eq_false c_1_0, eq_false c_1_1, eq_false c_1_2, eq_false c_1_3, eq_false c_1_4, eq_false c_1_5, eq_false c_1_6, eq_false c_1_7, eq_false c_1_8, eq_false c_1_9, eq_false c_1_10, eq_true c_1_11, not_false_eq_true, not_true_eq_false, and_true, true_and, and_false, false_and, and_self, ↓reduceIte, or_true, true_or, or_self, or_false, false_or]; done) | (simp only [acV, acOk, eq_false c_1_0, eq_false c_1_1, eq_false c_1_2, eq_false c_1_3, eq_false c_1_4, eq_false c_1_5, eq_false c_1_6, eq_false c_1_7, eq_false c_1_8, eq_false c_1_9, eq_false c_1_10, eq_true c_1_11, not_false_eq_true, not_true_eq_false, and_true, true_and, and_false, false_and, and_self, ↓reduceIte, or_true, true_or, or_self, or_false, false_or]; rfl))
  by_cases c_1_12 : w = 12
  · skip
    have e_1 : w.toInt = 12 := by rw [c_1_12]; rfl
    refine lv_tableIn (tgt := 196) hx hb dX5_account_1 (by rw [e_1]; decide) (by rw [e_1]; decide) (by rw [e_1]; rfl) (by decide) ?_
    refine lv_aload_n hx hb dX5_account_196 rfl (lv_at hl 0 rfl) ?_
    refine gt_X5_10 hc dX5_account_197 hM hW.o rfl ?_
    refine gt_X5_150 hc dX5_account_200 hM (hW.flat (k := 0) (a := x + 1) (by decide) rfl).o rfl ?_
    refine k_V1 hc [] cw_X5_303 rfl dX5_account_203 (c_X3_sum l hlf g _ (x + 16) 6 (cs 0 8 7) (cs 0 7) ((hW.flat (k := 0) (a := x + 1) (by decide) rfl).row (k := 7) (r := x + 16) (by decide) rfl rfl) (by decide)) ((hW.flat (k := 0) (a := x + 1) (by decide) rfl).row (k := 7) (r := x + 16) (by decide) rfl rfl).1 hM hS hl.1 rfl rfl ⟨Nat.le_of_ble_eq_true rfl, Nat.le_of_ble_eq_true rfl⟩ ⟨Nat.le_of_ble_eq_true rfl, Nat.le_of_ble_eq_true rfl⟩ (Nat.le_of_ble_eq_true rfl) (fun H locs hM hS => ?_)
    exact k_iret hc hr dX5_account_206 hM hS (Nat.le_of_ble_eq_true rfl) (Nat.le_of_ble_eq_true rfl) (by first | (simp only [acV, acOk, eq_false c_1_0, eq_false c_1_1, eq_false c_1_2, eq_false c_1_3, eq_false c_1_4, eq_false c_1_5, eq_false c_1_6, eq_false c_1_7, eq_false c_1_8, eq_false c_1_9, eq_false c_1_10, eq_false c_1_11, eq_true c_1_12, not_false_eq_true, not_true_eq_false, and_true, true_and, and_false, false_and, and_self, ↓reduceIte, or_true, true_or, or_self, or_false, false_or]; done) | (simp only [acV, acOk, eq_false c_1_0, eq_false c_1_1, eq_false c_1_2, eq_false c_1_3, eq_false c_1_4, eq_false c_1_5, eq_false c_1_6, eq_false c_1_7, eq_false c_1_8, eq_false c_1_9, eq_false c_1_10, eq_false c_1_11, eq_true c_1_12, not_false_eq_true, not_true_eq_false, and_true, true_and, and_false, false_and, and_self, ↓reduceIte, or_true, true_or, or_self, or_false, false_or]; rfl))
  by_cases c_1_13 : w = 13
  · skip
    have e_1 : w.toInt = 13 := by rw [c_1_13]; rfl
    refine lv_tableIn (tgt := 207) hx hb dX5_account_1 (by rw [e_1]; decide) (by rw [e_1]; decide) (by rw [e_1]; rfl) (by decide) ?_
    refine lv_aload_n hx hb dX5_account_207 rfl (lv_at hl 0 rfl) ?_
    refine gt_X5_10 hc dX5_account_208 hM hW.o rfl ?_
    refine k_V1 hc [] cw_X5_324 rfl dX5_account_211 (c_X0_bellReach l hlf g _ (x + 1) (cs 0) (hW.flat (k := 0) (a := x + 1) (by decide) rfl)) (hW.flat (k := 0) (a := x + 1) (by decide) rfl).o hM hS hl.1 rfl rfl ⟨Nat.le_of_ble_eq_true rfl, Nat.le_of_ble_eq_true rfl⟩ ⟨Nat.le_of_ble_eq_true rfl, Nat.le_of_ble_eq_true rfl⟩ (Nat.le_of_ble_eq_true rfl) (fun H locs hM hS => ?_)
    exact k_iret hc hr dX5_account_214 hM hS (Nat.le_of_ble_eq_true rfl) (Nat.le_of_ble_eq_true rfl) (by first | (simp only [acV, acOk, eq_false c_1_0, eq_false c_1_1, eq_false c_1_2, eq_false c_1_3, eq_false c_1_4, eq_false c_1_5, eq_false c_1_6, eq_false c_1_7, eq_false c_1_8, eq_false c_1_9, eq_false c_1_10, eq_false c_1_11, eq_false c_1_12, eq_true c_1_13, not_false_eq_true, not_true_eq_false, and_true, true_and, and_false, false_and, and_self, ↓reduceIte, or_true, true_or, or_self, or_false, false_or]; done) | (simp only [acV, acOk, eq_false c_1_0, eq_false c_1_1, eq_false c_1_2, eq_false c_1_3, eq_false c_1_4, eq_false c_1_5, eq_false c_1_6, eq_false c_1_7, eq_false c_1_8, eq_false c_1_9, eq_false c_1_10, eq_false c_1_11, eq_false c_1_12, eq_true c_1_13, not_false_eq_true, not_true_eq_false, and_true, true_and, and_false, false_and, and_self, ↓reduceIte, or_true, true_or, or_self, or_false, false_or]; rfl))
  by_cases c_1_14 : w = 14
  · skip
    have e_1 : w.toInt = 14 := by rw [c_1_14]; rfl
    refine lv_tableIn (tgt := 215) hx hb dX5_account_1 (by rw [e_1]; decide) (by rw [e_1]; decide) (by rw [e_1]; rfl) (by decide) ?_
    refine lv_aload_n hx hb dX5_account_215 rfl (lv_at hl 0 rfl) ?_
    refine gt_X5_10 hc dX5_account_216 hM hW.o rfl ?_
    refine gt_X5_327 hc dX5_account_219 hM (hW.flat (k := 0) (a := x + 1) (by decide) rfl).o rfl ?_
    exact k_iret hc hr dX5_account_222 hM hS (Nat.le_of_ble_eq_true rfl) (Nat.le_of_ble_eq_true rfl) (by first | (simp only [acV, acOk, eq_false c_1_0, eq_false c_1_1, eq_false c_1_2, eq_false c_1_3, eq_false c_1_4, eq_false c_1_5, eq_false c_1_6, eq_false c_1_7, eq_false c_1_8, eq_false c_1_9, eq_false c_1_10, eq_false c_1_11, eq_false c_1_12, eq_false c_1_13, eq_true c_1_14, not_false_eq_true, not_true_eq_false, and_true, true_and, and_false, false_and, and_self, ↓reduceIte, or_true, true_or, or_self, or_false, false_or]; done) | (simp only [acV, acOk, eq_false c_1_0, eq_false c_1_1, eq_false c_1_2, eq_false c_1_3, eq_false c_1_4, eq_false c_1_5, eq_false c_1_6, eq_false c_1_7, eq_false c_1_8, eq_false c_1_9, eq_false c_1_10, eq_false c_1_11, eq_false c_1_12, eq_false c_1_13, eq_true c_1_14, not_false_eq_true, not_true_eq_false, and_true, true_and, and_false, false_and, and_self, ↓reduceIte, or_true, true_or, or_self, or_false, false_or]; rfl))
  by_cases c_1_15 : w = 15
  · skip
    have e_1 : w.toInt = 15 := by rw [c_1_15]; rfl
    refine lv_tableIn (tgt := 223) hx hb dX5_account_1 (by rw [e_1]; decide) (by rw [e_1]; decide) (by rw [e_1]; rfl) (by decide) ?_
    refine lv_aload_n hx hb dX5_account_223 rfl (lv_at hl 0 rfl) ?_
    refine gt_X5_25 hc dX5_account_224 hM hW.o rfl ?_
    refine k_V1 hc [] cw_X5_330 rfl dX5_account_227 (c_X1_size l hlf g _ x cs hW) hW.hi hM hS hl.1 rfl rfl ⟨Nat.le_of_ble_eq_true rfl, Nat.le_of_ble_eq_true rfl⟩ ⟨Nat.le_of_ble_eq_true rfl, Nat.le_of_ble_eq_true rfl⟩ (Nat.le_of_ble_eq_true rfl) (fun H locs hM hS => ?_)
    exact k_iret hc hr dX5_account_230 hM hS (Nat.le_of_ble_eq_true rfl) (Nat.le_of_ble_eq_true rfl) (by first | (simp only [acV, acOk, eq_false c_1_0, eq_false c_1_1, eq_false c_1_2, eq_false c_1_3, eq_false c_1_4, eq_false c_1_5, eq_false c_1_6, eq_false c_1_7, eq_false c_1_8, eq_false c_1_9, eq_false c_1_10, eq_false c_1_11, eq_false c_1_12, eq_false c_1_13, eq_false c_1_14, eq_true c_1_15, not_false_eq_true, not_true_eq_false, and_true, true_and, and_false, false_and, and_self, ↓reduceIte, or_true, true_or, or_self, or_false, false_or]; done) | (simp only [acV, acOk, eq_false c_1_0, eq_false c_1_1, eq_false c_1_2, eq_false c_1_3, eq_false c_1_4, eq_false c_1_5, eq_false c_1_6, eq_false c_1_7, eq_false c_1_8, eq_false c_1_9, eq_false c_1_10, eq_false c_1_11, eq_false c_1_12, eq_false c_1_13, eq_false c_1_14, eq_true c_1_15, not_false_eq_true, not_true_eq_false, and_true, true_and, and_false, false_and, and_self, ↓reduceIte, or_true, true_or, or_self, or_false, false_or]; rfl))
  by_cases c_1_16 : w = 16
  · skip
    have e_1 : w.toInt = 16 := by rw [c_1_16]; rfl
    refine lv_tableIn (tgt := 231) hx hb dX5_account_1 (by rw [e_1]; decide) (by rw [e_1]; decide) (by rw [e_1]; rfl) (by decide) ?_
    refine lv_aload_n hx hb dX5_account_231 rfl (lv_at hl 0 rfl) ?_
    refine gt_X5_32 hc dX5_account_232 hM hW.o rfl ?_
    refine k_V1 hc [] cw_X5_331 rfl dX5_account_235 (c_X4_length l hlf g _ x cs hW) hW.te hM hS hl.1 rfl rfl ⟨Nat.le_of_ble_eq_true rfl, Nat.le_of_ble_eq_true rfl⟩ ⟨Nat.le_of_ble_eq_true rfl, Nat.le_of_ble_eq_true rfl⟩ (Nat.le_of_ble_eq_true rfl) (fun H locs hM hS => ?_)
    exact k_iret hc hr dX5_account_238 hM hS (Nat.le_of_ble_eq_true rfl) (Nat.le_of_ble_eq_true rfl) (by first | (simp only [acV, acOk, eq_false c_1_0, eq_false c_1_1, eq_false c_1_2, eq_false c_1_3, eq_false c_1_4, eq_false c_1_5, eq_false c_1_6, eq_false c_1_7, eq_false c_1_8, eq_false c_1_9, eq_false c_1_10, eq_false c_1_11, eq_false c_1_12, eq_false c_1_13, eq_false c_1_14, eq_false c_1_15, eq_true c_1_16, not_false_eq_true, not_true_eq_false, and_true, true_and, and_false, false_and, and_self, ↓reduceIte, or_true, true_or, or_self, or_false, false_or]; done) | (simp only [acV, acOk, eq_false c_1_0, eq_false c_1_1, eq_false c_1_2, eq_false c_1_3, eq_false c_1_4, eq_false c_1_5, eq_false c_1_6, eq_false c_1_7, eq_false c_1_8, eq_false c_1_9, eq_false c_1_10, eq_false c_1_11, eq_false c_1_12, eq_false c_1_13, eq_false c_1_14, eq_false c_1_15, eq_true c_1_16, not_false_eq_true, not_true_eq_false, and_true, true_and, and_false, false_and, and_self, ↓reduceIte, or_true, true_or, or_self, or_false, false_or]; rfl))
  have t_1 : (w.toInt < 0 ∨ 16 < w.toInt) ∨ (¬ w.toInt < 0 ∧ ¬ 16 < w.toInt ∧ (#[(83 : Int), (91 : Int), (102 : Int), (110 : Int), (118 : Int), (129 : Int), (140 : Int), (148 : Int), (157 : Int), (168 : Int), (179 : Int), (187 : Int), (195 : Int), (206 : Int), (214 : Int), (222 : Int), (230 : Int)] : Array Int)[(w.toInt - 0).toNat]? = some 238) := by
    by_cases h1 : w.toInt < 0
    · exact Or.inl (Or.inl h1)
    by_cases h2 : 16 < w.toInt
    · exact Or.inl (Or.inr h2)
    exact Or.inr ⟨h1, h2, tab_df (n := 17) (exc := [0, 1, 2, 3, 4, 5, 6, 7, 8, 9, 10, 11, 12, 13, 14, 15, 16]) (by decide) h1 h2 (by decide) (exc_c (tab_ne c_1_0 (by decide) h1) (exc_c (tab_ne c_1_1 (by decide) h1) (exc_c (tab_ne c_1_2 (by decide) h1) (exc_c (tab_ne c_1_3 (by decide) h1) (exc_c (tab_ne c_1_4 (by decide) h1) (exc_c (tab_ne c_1_5 (by decide) h1) (exc_c (tab_ne c_1_6 (by decide) h1) (exc_c (tab_ne c_1_7 (by decide) h1) (exc_c (tab_ne c_1_8 (by decide) h1) (exc_c (tab_ne c_1_9 (by decide) h1) (exc_c (tab_ne c_1_10 (by decide) h1) (exc_c (tab_ne c_1_11 (by decide) h1) (exc_c (tab_ne c_1_12 (by decide) h1) (exc_c (tab_ne c_1_13 (by decide) h1) (exc_c (tab_ne c_1_14 (by decide) h1) (exc_c (tab_ne c_1_15 (by decide) h1) (exc_c (tab_ne c_1_16 (by decide) h1) exc_n)))))))))))))))))⟩
  refine k_tabDf (tgt := 239) hx hb dX5_account_1 t_1 (by decide) ?_
  exact k_throwW hc hnx th_IllegalArgumentException 29 tx_29 hM hS hl.1 dX5_account_239 dX5_account_242 dX5_account_243 dX5_account_246 dX5_account_249 ⟨Nat.le_of_ble_eq_true rfl, Nat.le_of_ble_eq_true rfl, Nat.le_of_ble_eq_true rfl, Nat.le_of_ble_eq_true rfl⟩ (Nat.le_of_ble_eq_true rfl) (Nat.le_of_ble_eq_true rfl) (by first | (simp only [acV, acOk, eq_false c_1_0, eq_false c_1_1, eq_false c_1_2, eq_false c_1_3, eq_false c_1_4, eq_false c_1_5, eq_false c_1_6, eq_false c_1_7, eq_false c_1_8, eq_false c_1_9, eq_false c_1_10, eq_false c_1_11, eq_false c_1_12, eq_false c_1_13, eq_false c_1_14, eq_false c_1_15, eq_false c_1_16, not_false_eq_true, not_true_eq_false, and_true, true_and, and_false, false_and, and_self, ↓reduceIte, or_true, true_or, or_self, or_false, false_or]; done) | (simp only [acV, acOk, eq_false c_1_0, eq_false c_1_1, eq_false c_1_2, eq_false c_1_3, eq_false c_1_4, eq_false c_1_5, eq_false c_1_6, eq_false c_1_7, eq_false c_1_8, eq_false c_1_9, eq_false c_1_10, eq_false c_1_11, eq_false c_1_12, eq_false c_1_13, eq_false c_1_14, eq_false c_1_15, eq_false c_1_16, not_false_eq_true, not_true_eq_false, and_true, true_and, and_false, false_and, and_self, ↓reduceIte, or_true, true_or, or_self, or_false, false_or]; rfl))
set_option maxHeartbeats 4000000 in
set_option maxRecDepth 100000 in
theorem c_X5_undo (l : Launch) (hlf : l.stackTraces = false) (g : GC) (M : HM) (x : Nat) (cs : CS) (hW : ClsAt g M x cs) (hn : nxOk cs) : KM g l yX5_undo cX5_undo 1 (some .int) 6 3 18 [.ref x] M (if ¬ cs 11 3 5 = 0 then .inl (some (.int (tbS cs 11 3 5)), (putC g M x (tbS cs))) else .inr ("java/lang/IllegalStateException", M)) := by
  refine k_meth hlf (by decide) (Nat.le_of_ble_eq_true rfl) fun p e s m below meth c ls hc hr hnx hM hS hl => ?_
  have hc : Cx g p l s m [.ref x].toArray meth c cX5_undo 1 RX5 := hc
  have hx := hc.1
  have hb := hc.2.1
  have hl : lv_has ls 1 [(0, .ref x)] := hl
  refine lv_aload_n hx hb dX5_undo_0 rfl (lv_at hl 0 rfl) ?_
  refine gt_X5_25 hc dX5_undo_1 hM hW.o rfl ?_
  refine k_V1 hc [] cw_X5_330 rfl dX5_undo_4 (c_X1_size l hlf g _ x cs hW) hW.hi hM hS hl.1 rfl rfl ⟨Nat.le_of_ble_eq_true rfl, Nat.le_of_ble_eq_true rfl⟩ ⟨Nat.le_of_ble_eq_true rfl, Nat.le_of_ble_eq_true rfl⟩ (Nat.le_of_ble_eq_true rfl) (fun H locs hM hS => ?_)
  refine lv_if_ne (tgt := 21) hx hb dX5_undo_7 (by decide) (fun c_7 => ?_) (fun c_7 => ?_)
  · skip
    refine lv_aload_n hx hb dX5_undo_21 rfl (lv_at hl 0 rfl) ?_
    refine gt_X5_25 hc dX5_undo_22 hM hW.o rfl ?_
    refine lv_aload_n hx hb dX5_undo_25 rfl (lv_at hl 0 rfl) ?_
    refine gt_X5_10 hc dX5_undo_26 hM hW.o rfl ?_
    refine k_V0 hc [.ref (x + 1)] cw_X5_336 rfl dX5_undo_29 (c_X1_takeBack l hlf g _ x cs hW hn) hW.hi hM hS hl.1 rfl rfl ⟨Nat.le_of_ble_eq_true rfl, Nat.le_of_ble_eq_true rfl⟩ ⟨Nat.le_of_ble_eq_true rfl, Nat.le_of_ble_eq_true rfl⟩ (Nat.le_of_ble_eq_true rfl) (fun H locs hM hS => ?_)
    have hW := ClsAt.put (g := g) (M := M) (x := x) (cs := (tbS cs))
    refine lv_aload_n hx hb dX5_undo_32 rfl (lv_at hl 0 rfl) ?_
    refine gt_X5_25 hc dX5_undo_33 hM hW.o rfl ?_
    refine k_V1 hc [] cw_X5_330 rfl dX5_undo_36 (c_X1_size l hlf g _ x (tbS cs) hW) hW.hi hM hS hl.1 rfl rfl ⟨Nat.le_of_ble_eq_true rfl, Nat.le_of_ble_eq_true rfl⟩ ⟨Nat.le_of_ble_eq_true rfl, Nat.le_of_ble_eq_true rfl⟩ (Nat.le_of_ble_eq_true rfl) (fun H locs hM hS => ?_)
    exact k_iret hc hr dX5_undo_39 hM hS (Nat.le_of_ble_eq_true rfl) (Nat.le_of_ble_eq_true rfl) (by first | (simp only [eq_false c_7, not_false_eq_true, not_true_eq_false, and_true, true_and, and_false, false_and, and_self, ↓reduceIte, or_true, true_or, or_self, or_false, false_or]; done) | (simp only [eq_false c_7, not_false_eq_true, not_true_eq_false, and_true, true_and, and_false, false_and, and_self, ↓reduceIte, or_true, true_or, or_self, or_false, false_or]; rfl))
  · skip
    exact k_throwW hc hnx th_IllegalStateException 30 tx_30 hM hS hl.1 dX5_undo_10 dX5_undo_13 dX5_undo_14 dX5_undo_17 dX5_undo_20 ⟨Nat.le_of_ble_eq_true rfl, Nat.le_of_ble_eq_true rfl, Nat.le_of_ble_eq_true rfl, Nat.le_of_ble_eq_true rfl⟩ (Nat.le_of_ble_eq_true rfl) (Nat.le_of_ble_eq_true rfl) (by first | (simp only [eq_true c_7, not_false_eq_true, not_true_eq_false, and_true, true_and, and_false, false_and, and_self, ↓reduceIte, or_true, true_or, or_self, or_false, false_or]; done) | (simp only [eq_true c_7, not_false_eq_true, not_true_eq_false, and_true, true_and, and_false, false_and, and_self, ↓reduceIte, or_true, true_or, or_self, or_false, false_or]; rfl))
set_option maxHeartbeats 4000000 in
set_option maxRecDepth 100000 in
theorem c_X5_save (l : Launch) (hlf : l.stackTraces = false) (g : GC) (M : HM) (x : Nat) (cs : CS) (hW : ClsAt g M x cs) : KM g l yX5_save cX5_save 1 (some .int) 4 0 0 [.ref x] M (.inl (some (.int (cs 0 9 1)), (putC g M x (upS (upC cs 2 (cs 0)) 7 1)))) := by
  refine k_meth hlf (by decide) (Nat.le_of_ble_eq_true rfl) fun p e s m below meth c ls hc hr hnx hM hS hl => ?_
  have hc : Cx g p l s m [.ref x].toArray meth c cX5_save 1 RX5 := hc
  have hx := hc.1
  have hb := hc.2.1
  have hl : lv_has ls 1 [(0, .ref x)] := hl
  refine lv_aload_n hx hb dX5_save_0 rfl (lv_at hl 0 rfl) ?_
  refine gt_X5_19 hc dX5_save_1 hM hW.o rfl ?_
  refine lv_aload_n hx hb dX5_save_4 rfl (lv_at hl 0 rfl) ?_
  refine gt_X5_10 hc dX5_save_5 hM hW.o rfl ?_
  refine k_V0 hc [.ref (x + 1)] cw_X5_270 rfl dX5_save_8 (c_X0_copyFrom l hlf g _ (x + 35) (x + 1) (cs 2) (cs 0) (hW.flat (k := 2) (a := x + 35) (by decide) rfl) (hW.flat (k := 0) (a := x + 1) (by decide) rfl) (by omega)) (hW.flat (k := 2) (a := x + 35) (by decide) rfl).o hM hS hl.1 rfl rfl ⟨Nat.le_of_ble_eq_true rfl, Nat.le_of_ble_eq_true rfl⟩ ⟨Nat.le_of_ble_eq_true rfl, Nat.le_of_ble_eq_true rfl⟩ (Nat.le_of_ble_eq_true rfl) (fun H locs hM hS => ?_)
  have hM := hR.eq hM (putC_flat hW (k := 2) (by decide) rfl)
  have hW := ClsAt.put (g := g) (M := M) (x := x) (cs := (upC cs 2 (cs 0)))
  refine lv_aload_n hx hb dX5_save_11 rfl (lv_at hl 0 rfl) ?_
  refine lv_iconst (v := 1) hx hb dX5_save_12 (by decide) ?_
  refine pt_X5_43 hc dX5_save_13 hM hS hW.o (by first | rfl | exact bI_n) (by first | rfl | exact bI_fit) (Nat.le_of_ble_eq_true rfl) (fun H locs hM hS => ?_)
  have hM := hR.eq hM (putC_ob hW 7 (v := 1) (by decide) ob_s7)
  have hM := hR.eq hM putC_putC
  have hW := ClsAt.put (g := g) (M := M) (x := x) (cs := (upS (upC cs 2 (cs 0)) 7 1))
  refine lv_aload_n hx hb dX5_save_16 rfl (lv_at hl 0 rfl) ?_
  refine gt_X5_10 hc dX5_save_17 hM hW.o rfl ?_
  refine gt_X5_204 hc dX5_save_20 hM (hW.flat (k := 0) (a := x + 1) (by decide) rfl).o rfl ?_
  exact k_iret hc hr dX5_save_23 hM hS (Nat.le_of_ble_eq_true rfl) (Nat.le_of_ble_eq_true rfl) (by rfl)
set_option maxHeartbeats 4000000 in
set_option maxRecDepth 100000 in
theorem c_X5_restore (l : Launch) (hlf : l.stackTraces = false) (g : GC) (M : HM) (x : Nat) (cs : CS) (hW : ClsAt g M x cs) : KM g l yX5_restore cX5_restore 1 (some .int) 6 3 18 [.ref x] M (if ¬ cs 11 3 7 = 0 then .inl (some (.int (cs 2 9 1)), (putC g M x (upS (upC cs 0 (cs 2)) 5 0))) else .inr ("java/lang/IllegalStateException", M)) := by
  refine k_meth hlf (by decide) (Nat.le_of_ble_eq_true rfl) fun p e s m below meth c ls hc hr hnx hM hS hl => ?_
  have hc : Cx g p l s m [.ref x].toArray meth c cX5_restore 1 RX5 := hc
  have hx := hc.1
  have hb := hc.2.1
  have hl : lv_has ls 1 [(0, .ref x)] := hl
  refine lv_aload_n hx hb dX5_restore_0 rfl (lv_at hl 0 rfl) ?_
  refine gt_X5_43 hc dX5_restore_1 hM hW.o rfl ?_
  refine lv_if_ne (tgt := 18) hx hb dX5_restore_4 (by decide) (fun c_4 => ?_) (fun c_4 => ?_)
  · skip
    refine lv_aload_n hx hb dX5_restore_18 rfl (lv_at hl 0 rfl) ?_
    refine gt_X5_10 hc dX5_restore_19 hM hW.o rfl ?_
    refine lv_aload_n hx hb dX5_restore_22 rfl (lv_at hl 0 rfl) ?_
    refine gt_X5_19 hc dX5_restore_23 hM hW.o rfl ?_
    refine k_V0 hc [.ref (x + 35)] cw_X5_270 rfl dX5_restore_26 (c_X0_copyFrom l hlf g _ (x + 1) (x + 35) (cs 0) (cs 2) (hW.flat (k := 0) (a := x + 1) (by decide) rfl) (hW.flat (k := 2) (a := x + 35) (by decide) rfl) (by omega)) (hW.flat (k := 0) (a := x + 1) (by decide) rfl).o hM hS hl.1 rfl rfl ⟨Nat.le_of_ble_eq_true rfl, Nat.le_of_ble_eq_true rfl⟩ ⟨Nat.le_of_ble_eq_true rfl, Nat.le_of_ble_eq_true rfl⟩ (Nat.le_of_ble_eq_true rfl) (fun H locs hM hS => ?_)
    have hM := hR.eq hM (putC_flat hW (k := 0) (by decide) rfl)
    have hW := ClsAt.put (g := g) (M := M) (x := x) (cs := (upC cs 0 (cs 2)))
    refine lv_aload_n hx hb dX5_restore_29 rfl (lv_at hl 0 rfl) ?_
    refine gt_X5_25 hc dX5_restore_30 hM hW.o rfl ?_
    refine k_V0 hc [] cw_X5_341 rfl dX5_restore_33 (c_X1_forget l hlf g _ x (upC cs 0 (cs 2)) hW) hW.hi hM hS hl.1 rfl rfl ⟨Nat.le_of_ble_eq_true rfl, Nat.le_of_ble_eq_true rfl⟩ ⟨Nat.le_of_ble_eq_true rfl, Nat.le_of_ble_eq_true rfl⟩ (Nat.le_of_ble_eq_true rfl) (fun H locs hM hS => ?_)
    have hM := hR.eq hM putC_putC
    have hW := ClsAt.put (g := g) (M := M) (x := x) (cs := (upS (upC cs 0 (cs 2)) 5 0))
    refine lv_aload_n hx hb dX5_restore_36 rfl (lv_at hl 0 rfl) ?_
    refine gt_X5_10 hc dX5_restore_37 hM hW.o rfl ?_
    refine gt_X5_204 hc dX5_restore_40 hM (hW.flat (k := 0) (a := x + 1) (by decide) rfl).o rfl ?_
    exact k_iret hc hr dX5_restore_43 hM hS (Nat.le_of_ble_eq_true rfl) (Nat.le_of_ble_eq_true rfl) (by first | (simp only [eq_false c_4, not_false_eq_true, not_true_eq_false, and_true, true_and, and_false, false_and, and_self, ↓reduceIte, or_true, true_or, or_self, or_false, false_or]; done) | (simp only [eq_false c_4, not_false_eq_true, not_true_eq_false, and_true, true_and, and_false, false_and, and_self, ↓reduceIte, or_true, true_or, or_self, or_false, false_or]; rfl))
  · skip
    exact k_throwW hc hnx th_IllegalStateException 31 tx_31 hM hS hl.1 dX5_restore_7 dX5_restore_10 dX5_restore_11 dX5_restore_14 dX5_restore_17 ⟨Nat.le_of_ble_eq_true rfl, Nat.le_of_ble_eq_true rfl, Nat.le_of_ble_eq_true rfl, Nat.le_of_ble_eq_true rfl⟩ (Nat.le_of_ble_eq_true rfl) (Nat.le_of_ble_eq_true rfl) (by first | (simp only [eq_true c_4, not_false_eq_true, not_true_eq_false, and_true, true_and, and_false, false_and, and_self, ↓reduceIte, or_true, true_or, or_self, or_false, false_or]; done) | (simp only [eq_true c_4, not_false_eq_true, not_true_eq_false, and_true, true_and, and_false, false_and, and_self, ↓reduceIte, or_true, true_or, or_self, or_false, false_or]; rfl))
set_option maxHeartbeats 4000000 in
set_option maxRecDepth 100000 in
theorem c_X5_commands (l : Launch) (hlf : l.stackTraces = false) (g : GC) (M : HM) (x : Nat) (cs : CS) (hW : ClsAt g M x cs) (hn : nxOk cs) (ht : sgOk cs) : KM g l yX5_commands cX5_commands 4 (some .int) 10 3 18 [.ref x] M (if ¬ ccV cs = -1 then if (cmE cs).1 = true then .inl (some (.int (ccV cs)), (putC g M x (kpS (upS (cmE cs).2 1 0)))) else .inr ("java/lang/UnsupportedOperationException", (putC g M x (upS (upC (cmE cs).2 0 ((cmE cs).2 1)) 1 0))) else .inr ("java/lang/IllegalArgumentException", (putC g M x (upS (upS (ccS cs) 8 (ccS cs 11 3 2)) 1 0)))) := by
  refine k_meth hlf (by decide) (Nat.le_of_ble_eq_true rfl) fun p e s m below meth c ls hc hr hnx hM hS hl => ?_
  have hc : Cx g p l s m [.ref x].toArray meth c cX5_commands 4 RX5 := hc
  have hx := hc.1
  have hb := hc.2.1
  have hl : lv_has ls 4 [(0, .ref x)] := hl
  refine lv_aload_n hx hb dX5_commands_0 rfl (lv_at hl 0 rfl) ?_
  refine gt_X5_32 hc dX5_commands_1 hM hW.o rfl ?_
  refine k_V1 hc [] cw_X5_238 rfl dX5_commands_4 (c_X4_countCommands l hlf g _ x cs hW ht) hW.te hM hS hl.1 rfl rfl ⟨Nat.le_of_ble_eq_true rfl, Nat.le_of_ble_eq_true rfl⟩ ⟨Nat.le_of_ble_eq_true rfl, Nat.le_of_ble_eq_true rfl⟩ (Nat.le_of_ble_eq_true rfl) (fun H locs hM hS => ?_)
  have hW := ClsAt.put (g := g) (M := M) (x := x) (cs := (ccS cs))
  refine lv_istore_n (lv' := [(1, .int (ccV cs)), (0, .ref x)]) hx hb dX5_commands_7 rfl hl (by decide) rfl (fun ls hl => ?_)
  refine lv_aload_n hx hb dX5_commands_8 rfl (lv_at hl 1 rfl) ?_
  refine lv_iload_n hx hb dX5_commands_9 rfl (lv_at hl 0 rfl) ?_
  refine lv_iconst (v := (-1)) hx hb dX5_commands_10 (by decide) ?_
  refine lv_icmp_ne (tgt := 24) hx hb dX5_commands_11 (by decide) (fun c_11 => ?_) (fun c_11 => ?_)
  · skip
    refine lv_iconst (v := (-1)) hx hb dX5_commands_24 (by decide) ?_
    refine pt_X5_47 hc dX5_commands_25 hM hS hW.o rfl rfl (Nat.le_of_ble_eq_true rfl) (fun H locs hM hS => ?_)
    have hM := hR.eq hM (putC_ob hW 8 (v := (-1)) (by decide) ob_s8)
    have hM := hR.eq hM putC_putC
    have hW := ClsAt.put (g := g) (M := M) (x := x) (cs := (upS (ccS cs) 8 (-1)))
    refine lv_iload_n hx hb dX5_commands_28 rfl (lv_at hl 0 rfl) ?_
    refine lv_iconst (v := (-1)) hx hb dX5_commands_29 (by decide) ?_
    refine lv_icmp_ne (tgt := 50) hx hb dX5_commands_30 (by decide) (fun c_30 => ?_) (fun c_30 => ?_)
    · skip
      refine lv_aload_n hx hb dX5_commands_50 rfl (lv_at hl 1 rfl) ?_
      refine k_V0 hc [] cw_X5_63 rfl dX5_commands_51 (c_X5_begin l hlf g _ x (upS (ccS cs) 8 (-1)) hW) hW.o hM hS hl.1 rfl rfl ⟨Nat.le_of_ble_eq_true rfl, Nat.le_of_ble_eq_true rfl⟩ ⟨Nat.le_of_ble_eq_true rfl, Nat.le_of_ble_eq_true rfl⟩ (Nat.le_of_ble_eq_true rfl) (fun H locs hM hS => ?_)
      have hM := hR.eq hM putC_putC
      have hW := ClsAt.put (g := g) (M := M) (x := x) (cs := (bgS (upS (ccS cs) 8 (-1))))
      refine lv_aload_n hx hb dX5_commands_54 rfl (lv_at hl 1 rfl) ?_
      refine gt_X5_32 hc dX5_commands_55 hM hW.o rfl ?_
      refine k_V0 hc [] cw_X5_249 rfl dX5_commands_58 (c_X4_rewind l hlf g _ x (bgS (upS (ccS cs) 8 (-1))) hW) hW.te hM hS hl.1 rfl rfl ⟨Nat.le_of_ble_eq_true rfl, Nat.le_of_ble_eq_true rfl⟩ ⟨Nat.le_of_ble_eq_true rfl, Nat.le_of_ble_eq_true rfl⟩ (Nat.le_of_ble_eq_true rfl) (fun H locs hM hS => ?_)
      have hM := hR.eq hM putC_putC
      have hW := ClsAt.put (g := g) (M := M) (x := x) (cs := (upS (bgS (upS (ccS cs) 8 (-1))) 2 0))
      refine lv_iload_n hx hb dX5_commands_61 rfl (lv_at hl 0 rfl) ?_
      refine lv_istore_n (lv' := [(2, .int (ccV cs)), (1, .int (ccV cs)), (0, .ref x)]) hx hb dX5_commands_62 rfl hl (by decide) rfl (fun ls hl => ?_)
      refine lv_iconst (v := 0) hx hb dX5_commands_63 (by decide) ?_
      refine lv_istore_n (lv' := [(3, .int 0), (2, .int (ccV cs)), (1, .int (ccV cs)), (0, .ref x)]) hx hb dX5_commands_64 rfl hl (by decide) rfl (fun ls hl => ?_)
      have lp_65 : ∀ (D k : Nat) (u : CS), ((ccV cs).toNatClampNeg) - k < D → k ≤ (ccV cs).toNatClampNeg → (sgOk u) → (nxOk u) → (cmE cs = cmL ((ccV cs).toNatClampNeg - k) k u) → ∀ (ls : Array Slot) (H : Heap) (locs : List Loc), hR g (putC g M x u) H → va_S (gA g) s.heap H locs → lv_has ls 4 [(3, .int (nI k)), (2, .int (ccV cs)), (1, .int (ccV cs)), (0, .ref x)] → W p l e (rmOf 10 3 18) s m [.ref x].toArray below meth c H locs 0 0 (vx_MQ below (KQ g (if ¬ ccV cs = -1 then if (cmE cs).1 = true then .inl (some (.int (ccV cs)), (putC g M x (kpS (upS (cmE cs).2 1 0)))) else .inr ("java/lang/UnsupportedOperationException", (putC g M x (upS (upC (cmE cs).2 0 ((cmE cs).2 1)) 1 0))) else .inr ("java/lang/IllegalArgumentException", (putC g M x (upS (upS (ccS cs) 8 (ccS cs 11 3 2)) 1 0))))) (KX g (if ¬ ccV cs = -1 then if (cmE cs).1 = true then .inl (some (.int (ccV cs)), (putC g M x (kpS (upS (cmE cs).2 1 0)))) else .inr ("java/lang/UnsupportedOperationException", (putC g M x (upS (upC (cmE cs).2 0 ((cmE cs).2 1)) 1 0))) else .inr ("java/lang/IllegalArgumentException", (putC g M x (upS (upS (ccS cs) 8 (ccS cs 11 3 2)) 1 0))))) [.ref x].toArray s 3 18 (gA g)) (F0 m 65 ls []) := by
        intro D
        induction D with
        | zero => intro k u hD; exact absurd hD (Nat.not_lt_zero _)
        | succ D ih_65 =>
          intro k u hD hk hu hx hp ls H locs hM hS hl
          have hW := ClsAt.put (g := g) (M := M) (x := x) (cs := u)
          refine lv_iload_n hx hb dX5_commands_65 rfl (lv_at hl 0 rfl) ?_
          refine lv_iload_n hx hb dX5_commands_66 rfl (lv_at hl 2 rfl) ?_
          refine lv_icmp_ge (tgt := 132) hx hb dX5_commands_67 (by decide) (fun c_67 => ?_) (fun c_67 => ?_)
          · skip
            try have c_67 := (k_le (by have := k_clamp_lt (ccV cs); omega)).mp c_67
            refine lv_iload_n hx hb dX5_commands_132 rfl (lv_at hl 1 rfl) ?_
            refine lv_iconst (v := (-1)) hx hb dX5_commands_133 (by decide) ?_
            refine lv_icmp_ne (tgt := 148) hx hb dX5_commands_134 (by decide) (fun c_134 => ?_) (fun c_134 => ?_)
            · skip
              refine lv_aload_n hx hb dX5_commands_148 rfl (lv_at hl 3 rfl) ?_
              refine gt_X5_32 hc dX5_commands_149 hM hW.o rfl ?_
              refine k_V0 hc [] cw_X5_244 rfl dX5_commands_152 (c_X4_clear l hlf g _ x u hW) hW.te hM hS hl.1 rfl rfl ⟨Nat.le_of_ble_eq_true rfl, Nat.le_of_ble_eq_true rfl⟩ ⟨Nat.le_of_ble_eq_true rfl, Nat.le_of_ble_eq_true rfl⟩ (Nat.le_of_ble_eq_true rfl) (fun H locs hM hS => ?_)
              have hM := hR.eq hM putC_putC
              have hW := ClsAt.put (g := g) (M := M) (x := x) (cs := (upS u 1 0))
              refine lv_aload_n hx hb dX5_commands_155 rfl (lv_at hl 3 rfl) ?_
              refine lv_iload_n hx hb dX5_commands_156 rfl (lv_at hl 1 rfl) ?_
              have q_157_0 : ¬ (ccV cs) = -1 := c_11
              have hK := c_X5_settle l hlf g _ x (upS u 1 0) (ccV cs) hW (by first | exact nxOk_of hx cm2_6 | exact nxOk_of hx rfl)
              rw [if_pos q_157_0] at hK
              refine k_V1 hc [.int (ccV cs)] cw_X5_70 rfl dX5_commands_157 hK hW.o hM hS hl.1 rfl rfl ⟨Nat.le_of_ble_eq_true rfl, Nat.le_of_ble_eq_true rfl⟩ ⟨Nat.le_of_ble_eq_true rfl, Nat.le_of_ble_eq_true rfl⟩ (Nat.le_of_ble_eq_true rfl) (fun H locs hM hS => ?_)
              have hM := hR.eq hM putC_putC
              have hW := ClsAt.put (g := g) (M := M) (x := x) (cs := (kpS (upS u 1 0)))
              exact k_iret hc hr dX5_commands_160 hM hS (Nat.le_of_ble_eq_true rfl) (Nat.le_of_ble_eq_true rfl) (by rw [if_pos c_11, hp, show (ccV cs).toNatClampNeg - k = 0 by omega, cmL, if_pos rfl])
            · skip
              first | exact absurd c_11 c_134 | exact absurd c_134 c_11
          · skip
            try have c_67 : ¬ (ccV cs).toNatClampNeg ≤ k := fun h => c_67 ((k_le (by have := k_clamp_lt (ccV cs); omega)).mpr h)
            refine lv_iload_n hx hb dX5_commands_70 rfl (lv_at hl 1 rfl) ?_
            refine lv_iconst (v := (-1)) hx hb dX5_commands_71 (by decide) ?_
            refine lv_icmp_eq (tgt := 132) hx hb dX5_commands_72 (by decide) (fun c_72 => ?_) (fun c_72 => ?_)
            · skip
              first | exact absurd c_11 c_72 | exact absurd c_72 c_11
            · skip
              refine lv_aload_n hx hb dX5_commands_75 rfl (lv_at hl 3 rfl) ?_
              refine lv_iload_n hx hb dX5_commands_76 rfl (lv_at hl 0 rfl) ?_
              refine pt_X5_51 hc dX5_commands_77 hM hS hW.o rfl rfl (Nat.le_of_ble_eq_true rfl) (fun H locs hM hS => ?_)
              have hM := hR.eq hM (putC_ob hW 9 (v := (nI k)) (by decide) ob_s9)
              have hM := hR.eq hM putC_putC
              have hW := ClsAt.put (g := g) (M := M) (x := x) (cs := (upS u 9 (nI k)))
              refine lv_aload_n hx hb dX5_commands_80 rfl (lv_at hl 3 rfl) ?_
              refine gt_X5_32 hc dX5_commands_81 hM hW.o rfl ?_
              refine k_V1 hc [] cw_X5_252 rfl dX5_commands_84 (c_X4_readCommand l hlf g _ x (upS u 9 (nI k)) hW (sgOk_of hu upS_1)) hW.te hM hS hl.1 rfl rfl ⟨Nat.le_of_ble_eq_true rfl, Nat.le_of_ble_eq_true rfl⟩ ⟨Nat.le_of_ble_eq_true rfl, Nat.le_of_ble_eq_true rfl⟩ (Nat.le_of_ble_eq_true rfl) (fun H locs hM hS => ?_)
              have hM := hR.eq hM putC_putC
              have hW := ClsAt.put (g := g) (M := M) (x := x) (cs := (rcS (upS u 9 (nI k))))
              refine lv_pop hx hb dX5_commands_87 rfl ?_
              refine lv_aload_n hx hb dX5_commands_88 rfl (lv_at hl 3 rfl) ?_
              refine lv_aload_n hx hb dX5_commands_89 rfl (lv_at hl 3 rfl) ?_
              refine gt_X5_32 hc dX5_commands_90 hM hW.o rfl ?_
              refine k_V1 hc [] cw_X5_255 rfl dX5_commands_93 (c_X4_kind l hlf g _ x (rcS (upS u 9 (nI k))) hW (rcS_ok (sgOk_of hu upS_1))) hW.te hM hS hl.1 rfl rfl ⟨Nat.le_of_ble_eq_true rfl, Nat.le_of_ble_eq_true rfl⟩ ⟨Nat.le_of_ble_eq_true rfl, Nat.le_of_ble_eq_true rfl⟩ (Nat.le_of_ble_eq_true rfl) (fun H locs hM hS => ?_)
              refine lv_aload_n hx hb dX5_commands_96 rfl (lv_at hl 3 rfl) ?_
              refine gt_X5_32 hc dX5_commands_97 hM hW.o rfl ?_
              refine gt_X5_259 hc dX5_commands_100 hM hW.te rfl ?_
              refine k_V1 hc [.int ((rcS (upS u 9 (nI k))) 11 3 3), .ref (x + 191)] cw_X5_262 rfl dX5_commands_103 (c_X5_carryOut l hlf g _ x (rcS (upS u 9 (nI k))) ((rcS (upS u 9 (nI k))) 11 3 3) hW) hW.o hM hS hl.1 rfl rfl ⟨Nat.le_of_ble_eq_true rfl, Nat.le_of_ble_eq_true rfl⟩ ⟨Nat.le_of_ble_eq_true rfl, Nat.le_of_ble_eq_true rfl⟩ (Nat.le_of_ble_eq_true rfl) (fun H locs hM hS => ?_)
              have hM := hR.eq hM putC_putC
              have hW := ClsAt.put (g := g) (M := M) (x := x) (cs := (rsC (rcS (upS u 9 (nI k))) (coO ((rcS (upS u 9 (nI k))) 11 3 3) (gN (rcS (upS u 9 (nI k))) 0) (gN (rcS (upS u 9 (nI k))) 1) (gN (rcS (upS u 9 (nI k))) 2) ((rcS (upS u 9 (nI k))) 0))))
              refine lv_iconst (v := (-1)) hx hb dX5_commands_106 (by decide) ?_
              refine lv_icmp_ne (tgt := 114) hx hb dX5_commands_107 (by decide) (fun c_107 => ?_) (fun c_107 => ?_)
              · skip
                refine lv_iload_n hx hb dX5_commands_114 rfl (lv_at hl 2 rfl) ?_
                refine lv_istore_n (lv' := [(2, .int (ccV cs)), (3, .int (nI k)), (1, .int (ccV cs)), (0, .ref x)]) hx hb dX5_commands_115 rfl hl (by decide) rfl (fun ls hl => ?_)
                refine lv_aload_n hx hb dX5_commands_116 rfl (lv_at hl 3 rfl) ?_
                refine gt_X5_32 hc dX5_commands_117 hM hW.o rfl ?_
                refine lv_bipush (v := 59) hx hb dX5_commands_120 (by decide) ?_
                refine k_V1 hc [.int 59] cw_X5_266 rfl dX5_commands_122 (c_X4_readSign l hlf g _ x (rsC (rcS (upS u 9 (nI k))) (coO ((rcS (upS u 9 (nI k))) 11 3 3) (gN (rcS (upS u 9 (nI k))) 0) (gN (rcS (upS u 9 (nI k))) 1) (gN (rcS (upS u 9 (nI k))) 2) ((rcS (upS u 9 (nI k))) 0))) 59 hW (sgOk_of hu ((rsC_r1 (by omega)).trans (rcS_1.trans upS_1)))) hW.te hM hS hl.1 rfl rfl ⟨Nat.le_of_ble_eq_true rfl, Nat.le_of_ble_eq_true rfl⟩ ⟨Nat.le_of_ble_eq_true rfl, Nat.le_of_ble_eq_true rfl⟩ (Nat.le_of_ble_eq_true rfl) (fun H locs hM hS => ?_)
                have hM := hR.eq hM putC_putC
                have hW := ClsAt.put (g := g) (M := M) (x := x) (cs := (rsS (rsC (rcS (upS u 9 (nI k))) (coO ((rcS (upS u 9 (nI k))) 11 3 3) (gN (rcS (upS u 9 (nI k))) 0) (gN (rcS (upS u 9 (nI k))) 1) (gN (rcS (upS u 9 (nI k))) 2) ((rcS (upS u 9 (nI k))) 0))) 59))
                refine lv_pop hx hb dX5_commands_125 rfl ?_
                refine lv_iinc (v := (nI (k + 1))) (lv' := [(3, .int (nI (k + 1))), (2, .int (ccV cs)), (1, .int (ccV cs)), (0, .ref x)]) hx hb dX5_commands_126 hl (k := 1) rfl (k_inc1 _) (by decide) rfl (fun ls hl => ?_)
                refine lv_goto (tgt := 65) hx hb dX5_commands_129 (by decide) ?_
                exact ih_65 (k + 1) (cm2 u k) (by omega) (by omega) (sgOk_of hu cm2_1) (nxOk_of hx cm2_6) (by rw [hp, show (ccV cs).toNatClampNeg - k = ((ccV cs).toNatClampNeg - (k + 1)) + 1 by omega, cmL, if_neg c_106]) ls _ _ hM hS (lv_sub hl [0, 1, 2, 3] rfl)
              · skip
                refine lv_iconst (v := (-1)) hx hb dX5_commands_110 (by decide) ?_
                refine lv_goto (tgt := 115) hx hb dX5_commands_111 (by decide) ?_
                refine lv_istore_n (lv' := [(2, .int (-1)), (3, .int (nI k)), (1, .int (ccV cs)), (0, .ref x)]) hx hb dX5_commands_115 rfl hl (by decide) rfl (fun ls hl => ?_)
                refine lv_aload_n hx hb dX5_commands_116 rfl (lv_at hl 3 rfl) ?_
                refine gt_X5_32 hc dX5_commands_117 hM hW.o rfl ?_
                refine lv_bipush (v := 59) hx hb dX5_commands_120 (by decide) ?_
                refine k_V1 hc [.int 59] cw_X5_266 rfl dX5_commands_122 (c_X4_readSign l hlf g _ x (rsC (rcS (upS u 9 (nI k))) (coO ((rcS (upS u 9 (nI k))) 11 3 3) (gN (rcS (upS u 9 (nI k))) 0) (gN (rcS (upS u 9 (nI k))) 1) (gN (rcS (upS u 9 (nI k))) 2) ((rcS (upS u 9 (nI k))) 0))) 59 hW (sgOk_of hu ((rsC_r1 (by omega)).trans (rcS_1.trans upS_1)))) hW.te hM hS hl.1 rfl rfl ⟨Nat.le_of_ble_eq_true rfl, Nat.le_of_ble_eq_true rfl⟩ ⟨Nat.le_of_ble_eq_true rfl, Nat.le_of_ble_eq_true rfl⟩ (Nat.le_of_ble_eq_true rfl) (fun H locs hM hS => ?_)
                have hM := hR.eq hM putC_putC
                have hW := ClsAt.put (g := g) (M := M) (x := x) (cs := (rsS (rsC (rcS (upS u 9 (nI k))) (coO ((rcS (upS u 9 (nI k))) 11 3 3) (gN (rcS (upS u 9 (nI k))) 0) (gN (rcS (upS u 9 (nI k))) 1) (gN (rcS (upS u 9 (nI k))) 2) ((rcS (upS u 9 (nI k))) 0))) 59))
                refine lv_pop hx hb dX5_commands_125 rfl ?_
                refine lv_iinc (v := (nI (k + 1))) (lv' := [(3, .int (nI (k + 1))), (2, .int (-1)), (1, .int (ccV cs)), (0, .ref x)]) hx hb dX5_commands_126 hl (k := 1) rfl (k_inc1 _) (by decide) rfl (fun ls hl => ?_)
                refine lv_goto (tgt := 65) hx hb dX5_commands_129 (by decide) ?_
                refine lv_iload_n hx hb dX5_commands_65 rfl (lv_at hl 0 rfl) ?_
                refine lv_iload_n hx hb dX5_commands_66 rfl (lv_at hl 2 rfl) ?_
                refine lv_icmp_ge (tgt := 132) hx hb dX5_commands_67 (by decide) (fun c_67 => ?_) (fun c_67 => ?_)
                · skip
                  try have c_67 := (k_le (by have := k_clamp_lt (ccV cs); omega)).mp c_67
                  refine lv_iload_n hx hb dX5_commands_132 rfl (lv_at hl 1 rfl) ?_
                  refine lv_iconst (v := (-1)) hx hb dX5_commands_133 (by decide) ?_
                  refine lv_icmp_ne (tgt := 148) hx hb dX5_commands_134 (by decide) (fun c_134 => ?_) (fun c_134 => ?_)
                  · skip
                    exact absurd c_134 (by decide)
                  · skip
                    refine lv_aload_n hx hb dX5_commands_137 rfl (lv_at hl 3 rfl) ?_
                    refine gt_X5_10 hc dX5_commands_138 hM hW.o rfl ?_
                    refine lv_aload_n hx hb dX5_commands_141 rfl (lv_at hl 3 rfl) ?_
                    refine gt_X5_16 hc dX5_commands_142 hM hW.o rfl ?_
                    refine k_V0 hc [.ref (x + 18)] cw_X5_270 rfl dX5_commands_145 (c_X0_copyFrom l hlf g _ (x + 1) (x + 18) ((rsS (rsC (rcS (upS u 9 (nI k))) (coO ((rcS (upS u 9 (nI k))) 11 3 3) (gN (rcS (upS u 9 (nI k))) 0) (gN (rcS (upS u 9 (nI k))) 1) (gN (rcS (upS u 9 (nI k))) 2) ((rcS (upS u 9 (nI k))) 0))) 59) 0) ((rsS (rsC (rcS (upS u 9 (nI k))) (coO ((rcS (upS u 9 (nI k))) 11 3 3) (gN (rcS (upS u 9 (nI k))) 0) (gN (rcS (upS u 9 (nI k))) 1) (gN (rcS (upS u 9 (nI k))) 2) ((rcS (upS u 9 (nI k))) 0))) 59) 1) (hW.flat (k := 0) (a := x + 1) (by decide) rfl) (hW.flat (k := 1) (a := x + 18) (by decide) rfl) (by omega)) (hW.flat (k := 0) (a := x + 1) (by decide) rfl).o hM hS hl.1 rfl rfl ⟨Nat.le_of_ble_eq_true rfl, Nat.le_of_ble_eq_true rfl⟩ ⟨Nat.le_of_ble_eq_true rfl, Nat.le_of_ble_eq_true rfl⟩ (Nat.le_of_ble_eq_true rfl) (fun H locs hM hS => ?_)
                    have hM := hR.eq hM (putC_flat hW (k := 0) (by decide) rfl)
                    have hM := hR.eq hM putC_putC
                    have hW := ClsAt.put (g := g) (M := M) (x := x) (cs := (upC (rsS (rsC (rcS (upS u 9 (nI k))) (coO ((rcS (upS u 9 (nI k))) 11 3 3) (gN (rcS (upS u 9 (nI k))) 0) (gN (rcS (upS u 9 (nI k))) 1) (gN (rcS (upS u 9 (nI k))) 2) ((rcS (upS u 9 (nI k))) 0))) 59) 0 ((rsS (rsC (rcS (upS u 9 (nI k))) (coO ((rcS (upS u 9 (nI k))) 11 3 3) (gN (rcS (upS u 9 (nI k))) 0) (gN (rcS (upS u 9 (nI k))) 1) (gN (rcS (upS u 9 (nI k))) 2) ((rcS (upS u 9 (nI k))) 0))) 59) 1)))
                    refine lv_aload_n hx hb dX5_commands_148 rfl (lv_at hl 3 rfl) ?_
                    refine gt_X5_32 hc dX5_commands_149 hM hW.o rfl ?_
                    refine k_V0 hc [] cw_X5_244 rfl dX5_commands_152 (c_X4_clear l hlf g _ x (upC (rsS (rsC (rcS (upS u 9 (nI k))) (coO ((rcS (upS u 9 (nI k))) 11 3 3) (gN (rcS (upS u 9 (nI k))) 0) (gN (rcS (upS u 9 (nI k))) 1) (gN (rcS (upS u 9 (nI k))) 2) ((rcS (upS u 9 (nI k))) 0))) 59) 0 ((rsS (rsC (rcS (upS u 9 (nI k))) (coO ((rcS (upS u 9 (nI k))) 11 3 3) (gN (rcS (upS u 9 (nI k))) 0) (gN (rcS (upS u 9 (nI k))) 1) (gN (rcS (upS u 9 (nI k))) 2) ((rcS (upS u 9 (nI k))) 0))) 59) 1)) hW) hW.te hM hS hl.1 rfl rfl ⟨Nat.le_of_ble_eq_true rfl, Nat.le_of_ble_eq_true rfl⟩ ⟨Nat.le_of_ble_eq_true rfl, Nat.le_of_ble_eq_true rfl⟩ (Nat.le_of_ble_eq_true rfl) (fun H locs hM hS => ?_)
                    have hM := hR.eq hM putC_putC
                    have hW := ClsAt.put (g := g) (M := M) (x := x) (cs := (upS (upC (rsS (rsC (rcS (upS u 9 (nI k))) (coO ((rcS (upS u 9 (nI k))) 11 3 3) (gN (rcS (upS u 9 (nI k))) 0) (gN (rcS (upS u 9 (nI k))) 1) (gN (rcS (upS u 9 (nI k))) 2) ((rcS (upS u 9 (nI k))) 0))) 59) 0 ((rsS (rsC (rcS (upS u 9 (nI k))) (coO ((rcS (upS u 9 (nI k))) 11 3 3) (gN (rcS (upS u 9 (nI k))) 0) (gN (rcS (upS u 9 (nI k))) 1) (gN (rcS (upS u 9 (nI k))) 2) ((rcS (upS u 9 (nI k))) 0))) 59) 1)) 1 0))
                    refine lv_aload_n hx hb dX5_commands_155 rfl (lv_at hl 3 rfl) ?_
                    refine lv_iload_n hx hb dX5_commands_156 rfl (lv_at hl 1 rfl) ?_
                    have q_157_0 : ¬ (¬ (-1) = -1) := (fun h => h rfl)
                    have hK := c_X5_settle l hlf g _ x (upS (upC (rsS (rsC (rcS (upS u 9 (nI k))) (coO ((rcS (upS u 9 (nI k))) 11 3 3) (gN (rcS (upS u 9 (nI k))) 0) (gN (rcS (upS u 9 (nI k))) 1) (gN (rcS (upS u 9 (nI k))) 2) ((rcS (upS u 9 (nI k))) 0))) 59) 0 ((rsS (rsC (rcS (upS u 9 (nI k))) (coO ((rcS (upS u 9 (nI k))) 11 3 3) (gN (rcS (upS u 9 (nI k))) 0) (gN (rcS (upS u 9 (nI k))) 1) (gN (rcS (upS u 9 (nI k))) 2) ((rcS (upS u 9 (nI k))) 0))) 59) 1)) 1 0) (-1) hW (by first | exact nxOk_of hx cm2_6 | exact nxOk_of hx rfl)
                    rw [if_neg q_157_0] at hK
                    refine k_VX hc [.int (-1)] cw_X5_70 rfl dX5_commands_157 hK hW.o hM hS hl.1 rfl rfl ⟨Nat.le_of_ble_eq_true rfl, Nat.le_of_ble_eq_true rfl⟩ ⟨Nat.le_of_ble_eq_true rfl, Nat.le_of_ble_eq_true rfl⟩ (Nat.le_of_ble_eq_true rfl) (fun H locs q9 ce hM hS h1 h2 h3 => ?_)
                    exact k_out hc hnx hM hS (Nat.le_of_ble_eq_true rfl) (Nat.le_of_ble_eq_true rfl) h1 h2 h3 (by rw [if_pos c_11, hp, show (ccV cs).toNatClampNeg - k = ((ccV cs).toNatClampNeg - (k + 1)) + 1 by omega, cmL, if_pos c_106]; rfl)
                · skip
                  try have c_67 : ¬ (ccV cs).toNatClampNeg ≤ k := fun h => c_67 ((k_le (by have := k_clamp_lt (ccV cs); omega)).mpr h)
                  refine lv_iload_n hx hb dX5_commands_70 rfl (lv_at hl 1 rfl) ?_
                  refine lv_iconst (v := (-1)) hx hb dX5_commands_71 (by decide) ?_
                  refine lv_icmp_eq (tgt := 132) hx hb dX5_commands_72 (by decide) (fun c_72 => ?_) (fun c_72 => ?_)
                  · skip
                    refine lv_iload_n hx hb dX5_commands_132 rfl (lv_at hl 1 rfl) ?_
                    refine lv_iconst (v := (-1)) hx hb dX5_commands_133 (by decide) ?_
                    refine lv_icmp_ne (tgt := 148) hx hb dX5_commands_134 (by decide) (fun c_134 => ?_) (fun c_134 => ?_)
                    · skip
                      first | exact absurd c_72 c_134 | exact absurd c_134 c_72
                    · skip
                      refine lv_aload_n hx hb dX5_commands_137 rfl (lv_at hl 3 rfl) ?_
                      refine gt_X5_10 hc dX5_commands_138 hM hW.o rfl ?_
                      refine lv_aload_n hx hb dX5_commands_141 rfl (lv_at hl 3 rfl) ?_
                      refine gt_X5_16 hc dX5_commands_142 hM hW.o rfl ?_
                      refine k_V0 hc [.ref (x + 18)] cw_X5_270 rfl dX5_commands_145 (c_X0_copyFrom l hlf g _ (x + 1) (x + 18) ((rsS (rsC (rcS (upS u 9 (nI k))) (coO ((rcS (upS u 9 (nI k))) 11 3 3) (gN (rcS (upS u 9 (nI k))) 0) (gN (rcS (upS u 9 (nI k))) 1) (gN (rcS (upS u 9 (nI k))) 2) ((rcS (upS u 9 (nI k))) 0))) 59) 0) ((rsS (rsC (rcS (upS u 9 (nI k))) (coO ((rcS (upS u 9 (nI k))) 11 3 3) (gN (rcS (upS u 9 (nI k))) 0) (gN (rcS (upS u 9 (nI k))) 1) (gN (rcS (upS u 9 (nI k))) 2) ((rcS (upS u 9 (nI k))) 0))) 59) 1) (hW.flat (k := 0) (a := x + 1) (by decide) rfl) (hW.flat (k := 1) (a := x + 18) (by decide) rfl) (by omega)) (hW.flat (k := 0) (a := x + 1) (by decide) rfl).o hM hS hl.1 rfl rfl ⟨Nat.le_of_ble_eq_true rfl, Nat.le_of_ble_eq_true rfl⟩ ⟨Nat.le_of_ble_eq_true rfl, Nat.le_of_ble_eq_true rfl⟩ (Nat.le_of_ble_eq_true rfl) (fun H locs hM hS => ?_)
                      have hM := hR.eq hM (putC_flat hW (k := 0) (by decide) rfl)
                      have hM := hR.eq hM putC_putC
                      have hW := ClsAt.put (g := g) (M := M) (x := x) (cs := (upC (rsS (rsC (rcS (upS u 9 (nI k))) (coO ((rcS (upS u 9 (nI k))) 11 3 3) (gN (rcS (upS u 9 (nI k))) 0) (gN (rcS (upS u 9 (nI k))) 1) (gN (rcS (upS u 9 (nI k))) 2) ((rcS (upS u 9 (nI k))) 0))) 59) 0 ((rsS (rsC (rcS (upS u 9 (nI k))) (coO ((rcS (upS u 9 (nI k))) 11 3 3) (gN (rcS (upS u 9 (nI k))) 0) (gN (rcS (upS u 9 (nI k))) 1) (gN (rcS (upS u 9 (nI k))) 2) ((rcS (upS u 9 (nI k))) 0))) 59) 1)))
                      refine lv_aload_n hx hb dX5_commands_148 rfl (lv_at hl 3 rfl) ?_
                      refine gt_X5_32 hc dX5_commands_149 hM hW.o rfl ?_
                      refine k_V0 hc [] cw_X5_244 rfl dX5_commands_152 (c_X4_clear l hlf g _ x (upC (rsS (rsC (rcS (upS u 9 (nI k))) (coO ((rcS (upS u 9 (nI k))) 11 3 3) (gN (rcS (upS u 9 (nI k))) 0) (gN (rcS (upS u 9 (nI k))) 1) (gN (rcS (upS u 9 (nI k))) 2) ((rcS (upS u 9 (nI k))) 0))) 59) 0 ((rsS (rsC (rcS (upS u 9 (nI k))) (coO ((rcS (upS u 9 (nI k))) 11 3 3) (gN (rcS (upS u 9 (nI k))) 0) (gN (rcS (upS u 9 (nI k))) 1) (gN (rcS (upS u 9 (nI k))) 2) ((rcS (upS u 9 (nI k))) 0))) 59) 1)) hW) hW.te hM hS hl.1 rfl rfl ⟨Nat.le_of_ble_eq_true rfl, Nat.le_of_ble_eq_true rfl⟩ ⟨Nat.le_of_ble_eq_true rfl, Nat.le_of_ble_eq_true rfl⟩ (Nat.le_of_ble_eq_true rfl) (fun H locs hM hS => ?_)
                      have hM := hR.eq hM putC_putC
                      have hW := ClsAt.put (g := g) (M := M) (x := x) (cs := (upS (upC (rsS (rsC (rcS (upS u 9 (nI k))) (coO ((rcS (upS u 9 (nI k))) 11 3 3) (gN (rcS (upS u 9 (nI k))) 0) (gN (rcS (upS u 9 (nI k))) 1) (gN (rcS (upS u 9 (nI k))) 2) ((rcS (upS u 9 (nI k))) 0))) 59) 0 ((rsS (rsC (rcS (upS u 9 (nI k))) (coO ((rcS (upS u 9 (nI k))) 11 3 3) (gN (rcS (upS u 9 (nI k))) 0) (gN (rcS (upS u 9 (nI k))) 1) (gN (rcS (upS u 9 (nI k))) 2) ((rcS (upS u 9 (nI k))) 0))) 59) 1)) 1 0))
                      refine lv_aload_n hx hb dX5_commands_155 rfl (lv_at hl 3 rfl) ?_
                      refine lv_iload_n hx hb dX5_commands_156 rfl (lv_at hl 1 rfl) ?_
                      have q_157_0 : ¬ (¬ (-1) = -1) := (fun h => h rfl)
                      have hK := c_X5_settle l hlf g _ x (upS (upC (rsS (rsC (rcS (upS u 9 (nI k))) (coO ((rcS (upS u 9 (nI k))) 11 3 3) (gN (rcS (upS u 9 (nI k))) 0) (gN (rcS (upS u 9 (nI k))) 1) (gN (rcS (upS u 9 (nI k))) 2) ((rcS (upS u 9 (nI k))) 0))) 59) 0 ((rsS (rsC (rcS (upS u 9 (nI k))) (coO ((rcS (upS u 9 (nI k))) 11 3 3) (gN (rcS (upS u 9 (nI k))) 0) (gN (rcS (upS u 9 (nI k))) 1) (gN (rcS (upS u 9 (nI k))) 2) ((rcS (upS u 9 (nI k))) 0))) 59) 1)) 1 0) (-1) hW (by first | exact nxOk_of hx cm2_6 | exact nxOk_of hx rfl)
                      rw [if_neg q_157_0] at hK
                      refine k_VX hc [.int (-1)] cw_X5_70 rfl dX5_commands_157 hK hW.o hM hS hl.1 rfl rfl ⟨Nat.le_of_ble_eq_true rfl, Nat.le_of_ble_eq_true rfl⟩ ⟨Nat.le_of_ble_eq_true rfl, Nat.le_of_ble_eq_true rfl⟩ (Nat.le_of_ble_eq_true rfl) (fun H locs q9 ce hM hS h1 h2 h3 => ?_)
                      exact k_out hc hnx hM hS (Nat.le_of_ble_eq_true rfl) (Nat.le_of_ble_eq_true rfl) h1 h2 h3 (by rw [if_pos c_11, hp, show (ccV cs).toNatClampNeg - k = ((ccV cs).toNatClampNeg - (k + 1)) + 1 by omega, cmL, if_pos c_106]; rfl)
                  · skip
                    exact absurd c_72 (by decide)
      have z_3 : 0 = (nI 0) := rfl
      have hl := lv_chg (lv_sub hl [0, 1, 2, 3] rfl) z_3
      exact lp_65 ((ccV cs).toNatClampNeg + 1) 0 (cmI cs) (by omega) (by omega) (sgOk_of ht cmI_1) (nxOk_of hn cmI_6) rfl ls _ _ hM hS (lv_sub hl [0, 1, 2, 3] rfl)
    · skip
      first | exact absurd c_11 c_30 | exact absurd c_30 c_11
  · skip
    refine lv_aload_n hx hb dX5_commands_14 rfl (lv_at hl 1 rfl) ?_
    refine gt_X5_32 hc dX5_commands_15 hM hW.o rfl ?_
    refine k_V1 hc [] cw_X5_241 rfl dX5_commands_18 (c_X4_position l hlf g _ x (ccS cs) hW) hW.te hM hS hl.1 rfl rfl ⟨Nat.le_of_ble_eq_true rfl, Nat.le_of_ble_eq_true rfl⟩ ⟨Nat.le_of_ble_eq_true rfl, Nat.le_of_ble_eq_true rfl⟩ (Nat.le_of_ble_eq_true rfl) (fun H locs hM hS => ?_)
    refine lv_goto (tgt := 25) hx hb dX5_commands_21 (by decide) ?_
    refine pt_X5_47 hc dX5_commands_25 hM hS hW.o rfl rfl (Nat.le_of_ble_eq_true rfl) (fun H locs hM hS => ?_)
    have hM := hR.eq hM (putC_ob hW 8 (v := ((ccS cs) 11 3 2)) (by decide) ob_s8)
    have hM := hR.eq hM putC_putC
    have hW := ClsAt.put (g := g) (M := M) (x := x) (cs := (upS (ccS cs) 8 ((ccS cs) 11 3 2)))
    refine lv_iload_n hx hb dX5_commands_28 rfl (lv_at hl 0 rfl) ?_
    refine lv_iconst (v := (-1)) hx hb dX5_commands_29 (by decide) ?_
    refine lv_icmp_ne (tgt := 50) hx hb dX5_commands_30 (by decide) (fun c_30 => ?_) (fun c_30 => ?_)
    · skip
      first | exact absurd c_11 c_30 | exact absurd c_30 c_11
    · skip
      refine lv_aload_n hx hb dX5_commands_33 rfl (lv_at hl 1 rfl) ?_
      refine gt_X5_32 hc dX5_commands_34 hM hW.o rfl ?_
      refine k_V0 hc [] cw_X5_244 rfl dX5_commands_37 (c_X4_clear l hlf g _ x (upS (ccS cs) 8 ((ccS cs) 11 3 2)) hW) hW.te hM hS hl.1 rfl rfl ⟨Nat.le_of_ble_eq_true rfl, Nat.le_of_ble_eq_true rfl⟩ ⟨Nat.le_of_ble_eq_true rfl, Nat.le_of_ble_eq_true rfl⟩ (Nat.le_of_ble_eq_true rfl) (fun H locs hM hS => ?_)
      have hM := hR.eq hM putC_putC
      have hW := ClsAt.put (g := g) (M := M) (x := x) (cs := (upS (upS (ccS cs) 8 ((ccS cs) 11 3 2)) 1 0))
      exact k_throw hc hnx th_IllegalArgumentException 24 tx_24 hM hS hl.1 dX5_commands_40 dX5_commands_43 dX5_commands_44 dX5_commands_46 dX5_commands_49 ⟨Nat.le_of_ble_eq_true rfl, Nat.le_of_ble_eq_true rfl, Nat.le_of_ble_eq_true rfl, Nat.le_of_ble_eq_true rfl⟩ (Nat.le_of_ble_eq_true rfl) (Nat.le_of_ble_eq_true rfl) (by rw [if_neg (not_not.mpr c_11)])
