/-! THE CONSTRUCTORS: Object, Row -/
section KSU
variable {p : Program} {l : Launch} {e : Env} {R : Room} {s : State} {m : MethodId} {args : Array Value} {below : List Frame} {meth : Method} {c : Code} {H : Heap} {locs : List Loc} {cells slots : Nat} {Q : State → Prop}
variable {cc : ByteArray} {pc nL : Nat} {ls : Array Slot} {g : GC} {own : String} {a : Nat}
theorem k_super (hc : Cx g p l s m args meth c cc nL own) {index : Nat} (hw : Cond.methodLink own index objectInit ∈ lw_all) (hdg : decode cc pc = .ok (.invokespecial index, 3)) (hsz : ls.size = nL) (hroom : 1 ≤ R.frames ∧ 12 ≤ R.locals)
    (kk : W p l e R s m args below meth c H locs cells slots Q (F0 m (pc + 3) ls [])) : W p l e R s m args below meth c H locs cells slots Q (F0 m pc ls [.ref a]) :=
  W.objInit hc.1 hc.2.1 hc.2.2.2.1 (hc.2.2.2.2.1 _ hw) (hc.2.2.2.2.1 _ qi_objInit) (hc.2.2.2.2.1 _ qc_objInit) rfl (by rw [hc.2.2.1]; exact hsz) rfl hdg hroom.1 hroom.2 kk
end KSU
theorem putR_ctor {g : GC} {M : HM} {r n : Nat} {sz : Int32} {f : Nat → Int32} {A : va_E} : upM (upM (upM M r A) (r + 1) (.inl (gI g, n, .inl f))) r (.inr (5, [.ref (r + 1), .int sz])) = putR g M r n sz f := by
  funext q
  by_cases h : q = r
  · subst h; simp [upM, putR]
  · by_cases h2 : q = r + 1
    · subst h2; simp [upM, putR]
    · simp [upM, putR, h, h2]
set_option maxHeartbeats 4000000 in
set_option maxRecDepth 100000 in
theorem c_X3_init (l : Launch) (hlf : l.stackTraces = false) (g : GC) (M : HM) (r n : Nat) (h0 : 0 < n) (h1 : n < 100) (hW : M r = some (.inr (5, [.null, .int 0]))) : KN g l yX3_init cX3_init 2 1 1 100 [.ref r, .int (nI n)] M (r + 1) (.inl (none, putR g M r n 0 (fun _ => 0))) := by
  refine k_ctor hlf (by decide) (Nat.le_of_ble_eq_true rfl) fun p e s m below meth c ls hc hr hin2 hnx hsz hM hS hl => ?_
  have hc : Cx g p l s m [.ref r, .int (nI n)].toArray meth c cX3_init 2 RX3 := hc
  have hin2 : meth.name = "<init>" := hin2
  have hx := hc.1
  have hb := hc.2.1
  have hl : lv_has ls 2 [(0, .ref r), (1, .int (nI n))] := hl
  refine lv_aload_n hx hb dX3_init_0 rfl (lv_at hl 0 rfl) ?_
  refine k_super hc q_X3_3 dX3_init_1 hl.1 ⟨Nat.le_of_ble_eq_true rfl, Nat.le_of_ble_eq_true rfl⟩ ?_
  refine lv_aload_n hx hb dX3_init_4 rfl (lv_at hl 0 rfl) ?_
  refine lv_iconst (v := 0) hx hb dX3_init_5 (by decide) ?_
  refine pt_X3_9 hc dX3_init_6 hM hS hW rfl rfl (Nat.le_of_ble_eq_true rfl) (fun H locs hM hS => ?_)
  refine lv_aload_n hx hb dX3_init_9 rfl (lv_at hl 0 rfl) ?_
  refine lv_iload_n hx hb dX3_init_10 rfl (lv_at hl 1 rfl) ?_
  refine lv_if_le (tgt := 18) hx hb dX3_init_11 (by decide) (fun c_11 => absurd c_11 (by exact nI_ge (a := 0) h0 (by omega))) (fun c_11 => ?_)
  refine lv_iload_n hx hb dX3_init_14 rfl (lv_at hl 1 rfl) ?_
  refine lv_goto (tgt := 19) hx hb dX3_init_15 (by decide) ?_
  refine k_newaI hc (N' := n) (nI_pos (by omega)) (nI_clamp (by omega)) (by omega) dX3_init_19 hM hS (q := r + 1) (by omega) (by have := hS.1; omega) (Nat.le_of_ble_eq_true rfl) (by show 0 + n ≤ 100; omega) (fun H hM hS => ?_)
  refine pt_X3_15 hc hin2 dX3_init_21 hM hS (a := r) (fs := [.null, .int 0]) (by simp [upM, hW]) rfl rfl (Nat.le_of_ble_eq_true rfl) (fun H locs hM hS => ?_)
  exact k_vret hc hr dX3_init_24 (hM.eq putR_ctor) hS (Nat.le_of_ble_eq_true rfl) (by show 0 + n ≤ 100; omega) rfl
