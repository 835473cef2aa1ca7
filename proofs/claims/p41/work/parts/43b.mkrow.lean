/-! new Row(n) -/
section KMR
variable {p : Program} {l : Launch} {e : Env} {R : Room} {s : State} {m : MethodId} {args : Array Value} {below : List Frame} {meth : Method} {c : Code} {H : Heap} {locs : List Loc} {cells slots : Nat} {Q : State → Prop}
variable {cc : ByteArray} {pc nL : Nat} {ls : Array Slot} {rest : List Value} {g : GC} {M : HM} {own : String} {a : Nat}
theorem putR_over {r n : Nat} {sz : Int32} {f : Nat → Int32} {A : va_E} : putR g (upM M r A) r n sz f = putR g M r n sz f := by
  funext q
  by_cases h : q = r <;> simp [upM, putR, h]
theorem k_mkRow (hc : Cx g p l s m args meth c cc nL own) (hlf : l.stackTraces = false) {idx ic n w q : Nat} (h0 : 0 < n) (h1 : n < 100) (ql : Cond.classLink own idx RX3 ∈ lw_all) (cw : CwI own ic 1 yX3_init cX3_init 2)
    (d0 : decode cc pc = .ok (.new idx, 3)) (d3 : decode cc (pc + 3) = .ok (.dup, 1))
    (hpush : ∀ (H : Heap) (locs : List Loc) (cells slots : Nat) (st : List Value), W p l e R s m args below meth c H locs cells slots Q (F0 m (pc + 4 + w) ls (.int (nI n) :: st)) → W p l e R s m args below meth c H locs cells slots Q (F0 m (pc + 4) ls st))
    (d5 : decode cc (pc + 4 + w) = .ok (.invokespecial ic, 3)) (hM : hR g M H) (hS : va_S (gA g) s.heap H locs) (hq : s.heap.size + cells = q) (hlow : q ≤ H.size) (hsz : ls.size = nL)
    (hroom : 2 ≤ R.frames ∧ 81 ≤ R.locals) (hcells : cells + 2 ≤ R.cells) (hslots : slots + 102 ≤ R.slots) (hW : (rest.map fun v => v.category).sum ≤ 7)
    (kk : ∀ (H1 : Heap) (locs1 : List Loc), hR g (putR g M q n 0 (fun _ => 0)) H1 → va_S (gA g) s.heap H1 locs1 → q + 2 ≤ H1.size → W p l e R s m args below meth c H1 locs1 (cells + 2) (slots + 102) Q (F0 m (pc + 7 + w) ls (.ref q :: rest))) : W p l e R s m args below meth c H locs cells slots Q (F0 m pc ls rest) := by
  refine k_new hc (T := TX3) (ci := 5) in_X3 tyX3 tyX3_ok rfl ql qm_X3 qn_X3 (fs := [.null, .int 0]) (fun j hj => ?_) d0 hM hS hq hlow (by omega) (by omega) (fun H1 hM1 hS1 => ?_)
  · match j, hj with
    | 0, _ => rfl
    | 1, _ => rfl
  refine lv_dup hc.1 hc.2.1 d3 rfl ?_
  refine hpush _ _ _ _ _ ?_
  refine k_size fun hz => ?_
  have hlt := hM1.lt upM_at
  have hz1 : H1.size = q + 1 := by omega
  refine k_goI hc (KPn.blind) cw d5 (c_X3_init l hlf g _ q n h0 h1 upM_at) (hc.preN hM1 hS1 hz1) (As := [.int (nI n)]) (rest := .ref q :: rest) hS1 rfl hsz ⟨hroom.1, hroom.2⟩ ⟨by omega, by omega⟩ (by have h9 : (Value.ref q).category = 1 := rfl; simp only [List.map_cons, List.sum_cons, h9]; omega) (fun v M1 H2 locs2 hres hM2 hS2 => ?_) (fun E M1 H2 locs2 q9 ce hres => by cases hres)
  cases hres
  rw [putR_over] at hM2
  refine W.widen (Nat.le_refl _) (Nat.le_refl _) ?_
  have := kk H2 locs2 hM2 hS2 (hM2.lt (a := q + 1) RowAt.put.2)
  rw [show pc + 4 + w + 3 = pc + 7 + w by omega]
  exact this
end KMR
