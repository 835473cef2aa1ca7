/-! changes(o, x) -/
def ChS (g : GC) (M : HM) (x : Nat) (cs : CS) (n nx sz : Nat) : Value → HM → Prop := fun v M1 => ∃ c' : CS, M1 = putC g M x c' ∧ ((v = .int 1 ∧ ∃ fl, Scd nx sz cs c' fl ∧ GI (n + 48 * 61) fl) ∨ (v = .int 0 ∧ Rfd cs c'))
theorem nz_1 : ∀ k : Nat, k < 20 → ¬ (nI k + 1 = 0) := by decide +kernel
section CHG
variable {p : Program} {l : Launch} {e : Env} {R : Room} {s : State} {m : MethodId} {args : Array Value} {below : List Frame} {meth : Method} {c : Code} {H : Heap} {locs : List Loc} {cells slots : Nat}
variable {ls : Array Slot} {g : GC} {M : HM} {x : Nat} {cs : CS} {n nx sz : Nat} {xx vs vh vc : Int32}
theorem k_ldcw {cc : ByteArray} {nL pc : Nat} {rest : List Value} {own : String} {Q : State → Prop} (hc : Cx g p l s m args meth c cc nL own) {index : Nat} {tx : String} {q : Nat} (hZ : vk_R own index tx q s) (hdg : decode cc pc = .ok (.ldc_w index, 3))
    (k : W p l e R s m args below meth c H locs cells slots Q (F0 m (pc + 3) ls (.ref q :: rest))) : W p l e R s m args below meth c H locs cells slots Q (F0 m pc ls rest) := by
  intro T hT X
  obtain ⟨t, a1, b1⟩ := k T hT X
  exact ⟨t, X.ldcStringW hc.1 hc.2.2.2.1 (text := tx) (a := q) hZ.1 hZ.2 (g := F0 m pc ls rest) rfl (by rw [hc.2.1]; exact hdg) t a1, b1⟩

set_option maxHeartbeats 4000000 in
theorem ch_136 (hc : Cx g p l s m args meth c cL_changes 5 RL) (hlf : l.stackTraces = false) (hr : meth.sig.returnType = some .boolean) (hfr : 13 ≤ R.frames) (hlo : 780 ≤ R.locals) (hce : cells + 90 ≤ 100) (hse : slots + 540 ≤ 600) (hRc : 100 ≤ R.cells) (hRs : 600 ≤ R.slots) (hW : ClsAt g M x cs) (hG : GI n (cs 0)) (hn : n + 48 * 61 < 2 ^ 30) (hA : Aux cs) (hR9 : Rg nx sz cs)
    (hM : hR g M H) (hS : va_S (gA g) s.heap H locs) (hl : lv_has ls 5 [(4, .int vc), (3, .int vh), (2, .int vs), (0, .ref x), (1, .int xx)]) :
    W p l e R s m args below meth c H locs cells slots (vx_MQ below (KQv g (ChS g M x cs n nx sz)) KXn args s 100 600 (gA g)) (F0 m 136 ls []) := by
  have hx := hc.1
  have hb := hc.2.1
  have hnx := hR9.ok
  refine lv_aload_n hx hb dL_changes_136 rfl (lv_at hl 3 rfl) ?_
  refine lv_iload_n hx hb dL_changes_137 rfl (lv_at hl 4 rfl) ?_
  refine lv_iconst (v := 4) hx hb dL_changes_138 (by decide) ?_
  refine lv_ishr hx hb dL_changes_139 ?_
  refine lv_bipush (v := 101) hx hb dL_changes_140 (by decide) ?_
  refine k_S1 hc [.int (xx >>> (4 &&& 31)), .int 101] cw_L_169 dL_changes_142 (c_L_some l hlf g _ (xx >>> (4 &&& 31)) 101 (by decide)) hM hS hl.1 rfl rfl ⟨by omega, by omega⟩ ⟨by omega, by omega⟩ (Nat.le_of_ble_eq_true rfl) (fun H locs hM hS => ?_)
  have k1 := h_stake l hlf g M x cs (smF (xx >>> (4 &&& 31)) 101) hW hnx
  rcases op_cases (oi_ds hG (smF (xx >>> (4 &&& 31)) 101)) hA hR9 with ⟨w, fl, hw, hv, hs, hg⟩ | ⟨hv, hs⟩
  · rw [show v_stake cs (smF (xx >>> (4 &&& 31)) 101) = nI w from hv] at k1
    refine k_SX1 hc [.ref x, .int (smF (xx >>> (4 &&& 31)) 101)] cw_L_172 dL_changes_145 k1 hM hS hl.1 rfl rfl ⟨by omega, by omega⟩ ⟨by omega, by omega⟩ (Nat.le_of_ble_eq_true rfl) (fun H locs hM hS => ?_)
    refine lv_if_lt (tgt := 155) hx hb dL_changes_148 (by decide) (fun c_148 => absurd c_148 (nI_pos (by omega))) (fun c_148 => ?_)
    refine lv_iconst (v := 1) hx hb dL_changes_151 (by decide) ?_
    refine lv_goto (tgt := 156) hx hb dL_changes_152 (by decide) ?_
    exact k_zretv hc hr dL_changes_156 hM hS (by rfl) (by omega) (by omega) ⟨_, rfl, Or.inl ⟨rfl, fl, hs, hg.mono (by omega)⟩⟩
  · rw [show v_stake cs (smF (xx >>> (4 &&& 31)) 101) = -1001 from hv] at k1
    refine k_SX1 hc [.ref x, .int (smF (xx >>> (4 &&& 31)) 101)] cw_L_172 dL_changes_145 k1 hM hS hl.1 rfl rfl ⟨by omega, by omega⟩ ⟨by omega, by omega⟩ (Nat.le_of_ble_eq_true rfl) (fun H locs hM hS => ?_)
    refine lv_if_lt (tgt := 155) hx hb dL_changes_148 (by decide) (fun c_148 => ?_) (fun c_148 => absurd (by decide) c_148)
    refine lv_iconst (v := 0) hx hb dL_changes_155 (by decide) ?_
    exact k_zretv hc hr dL_changes_156 hM hS (by rfl) (by omega) (by omega) ⟨_, rfl, Or.inr ⟨rfl, hs⟩⟩
set_option maxHeartbeats 4000000 in
theorem ch_157 (hc : Cx g p l s m args meth c cL_changes 5 RL) (hlf : l.stackTraces = false) (hr : meth.sig.returnType = some .boolean) (hfr : 13 ≤ R.frames) (hlo : 780 ≤ R.locals) (hce : cells + 90 ≤ 100) (hse : slots + 540 ≤ 600) (hRc : 100 ≤ R.cells) (hRs : 600 ≤ R.slots) (hW : ClsAt g M x cs) (hG : GI n (cs 0)) (hn : n + 48 * 61 < 2 ^ 30) (hA : Aux cs) (hR9 : Rg nx sz cs)
    (hM : hR g M H) (hS : va_S (gA g) s.heap H locs) (hl : lv_has ls 5 [(4, .int vc), (3, .int vh), (2, .int vs), (0, .ref x), (1, .int xx)]) :
    W p l e R s m args below meth c H locs cells slots (vx_MQ below (KQv g (ChS g M x cs n nx sz)) KXn args s 100 600 (gA g)) (F0 m 157 ls []) := by
  have hx := hc.1
  have hb := hc.2.1
  have hnx := hR9.ok
  refine lv_aload_n hx hb dL_changes_157 rfl (lv_at hl 3 rfl) ?_
  refine lv_iload_n hx hb dL_changes_158 rfl (lv_at hl 4 rfl) ?_
  refine lv_iconst (v := 4) hx hb dL_changes_159 (by decide) ?_
  refine lv_ishr hx hb dL_changes_160 ?_
  refine lv_bipush (v := 101) hx hb dL_changes_161 (by decide) ?_
  refine k_S1 hc [.int (xx >>> (4 &&& 31)), .int 101] cw_L_169 dL_changes_163 (c_L_some l hlf g _ (xx >>> (4 &&& 31)) 101 (by decide)) hM hS hl.1 rfl rfl ⟨by omega, by omega⟩ ⟨by omega, by omega⟩ (Nat.le_of_ble_eq_true rfl) (fun H locs hM hS => ?_)
  refine lv_iload_n hx hb dL_changes_166 rfl (lv_at hl 4 rfl) ?_
  refine lv_bipush (v := 7) hx hb dL_changes_167 (by decide) ?_
  refine lv_ishr hx hb dL_changes_169 ?_
  refine lv_bipush (v := 11) hx hb dL_changes_170 (by decide) ?_
  refine k_S1 hc [.int (xx >>> (7 &&& 31)), .int 11] cw_L_169 dL_changes_172 (c_L_some l hlf g _ (xx >>> (7 &&& 31)) 11 (by decide)) hM hS hl.1 rfl rfl ⟨by omega, by omega⟩ ⟨by omega, by omega⟩ (Nat.le_of_ble_eq_true rfl) (fun H locs hM hS => ?_)
  have k1 := h_post l hlf g M x cs (smF (xx >>> (4 &&& 31)) 101) (smF (xx >>> (7 &&& 31)) 11) hW hnx
  rcases op_cases (oi_sp hG (smF (xx >>> (4 &&& 31)) 101) (smF (xx >>> (7 &&& 31)) 11)) hA hR9 with ⟨w, fl, hw, hv, hs, hg⟩ | ⟨hv, hs⟩
  · rw [show v_post cs (smF (xx >>> (4 &&& 31)) 101) (smF (xx >>> (7 &&& 31)) 11) = nI w from hv] at k1
    refine k_SX1 hc [.ref x, .int (smF (xx >>> (4 &&& 31)) 101), .int (smF (xx >>> (7 &&& 31)) 11)] cw_L_174 dL_changes_175 k1 hM hS hl.1 rfl rfl ⟨by omega, by omega⟩ ⟨by omega, by omega⟩ (Nat.le_of_ble_eq_true rfl) (fun H locs hM hS => ?_)
    refine lv_if_lt (tgt := 185) hx hb dL_changes_178 (by decide) (fun c_178 => absurd c_178 (nI_pos (by omega))) (fun c_178 => ?_)
    refine lv_iconst (v := 1) hx hb dL_changes_181 (by decide) ?_
    refine lv_goto (tgt := 186) hx hb dL_changes_182 (by decide) ?_
    exact k_zretv hc hr dL_changes_186 hM hS (by rfl) (by omega) (by omega) ⟨_, rfl, Or.inl ⟨rfl, fl, hs, hg.mono (by omega)⟩⟩
  · rw [show v_post cs (smF (xx >>> (4 &&& 31)) 101) (smF (xx >>> (7 &&& 31)) 11) = -1001 from hv] at k1
    refine k_SX1 hc [.ref x, .int (smF (xx >>> (4 &&& 31)) 101), .int (smF (xx >>> (7 &&& 31)) 11)] cw_L_174 dL_changes_175 k1 hM hS hl.1 rfl rfl ⟨by omega, by omega⟩ ⟨by omega, by omega⟩ (Nat.le_of_ble_eq_true rfl) (fun H locs hM hS => ?_)
    refine lv_if_lt (tgt := 185) hx hb dL_changes_178 (by decide) (fun c_178 => ?_) (fun c_178 => absurd (by decide) c_178)
    refine lv_iconst (v := 0) hx hb dL_changes_185 (by decide) ?_
    exact k_zretv hc hr dL_changes_186 hM hS (by rfl) (by omega) (by omega) ⟨_, rfl, Or.inr ⟨rfl, hs⟩⟩
set_option maxHeartbeats 4000000 in
theorem ch_187 (hc : Cx g p l s m args meth c cL_changes 5 RL) (hlf : l.stackTraces = false) (hr : meth.sig.returnType = some .boolean) (hfr : 13 ≤ R.frames) (hlo : 780 ≤ R.locals) (hce : cells + 90 ≤ 100) (hse : slots + 540 ≤ 600) (hRc : 100 ≤ R.cells) (hRs : 600 ≤ R.slots) (hW : ClsAt g M x cs) (hG : GI n (cs 0)) (hn : n + 48 * 61 < 2 ^ 30) (hA : Aux cs) (hR9 : Rg nx sz cs)
    (hM : hR g M H) (hS : va_S (gA g) s.heap H locs) (hl : lv_has ls 5 [(4, .int vc), (3, .int vh), (2, .int vs), (0, .ref x), (1, .int xx)]) :
    W p l e R s m args below meth c H locs cells slots (vx_MQ below (KQv g (ChS g M x cs n nx sz)) KXn args s 100 600 (gA g)) (F0 m 187 ls []) := by
  have hx := hc.1
  have hb := hc.2.1
  have hnx := hR9.ok
  refine lv_aload_n hx hb dL_changes_187 rfl (lv_at hl 3 rfl) ?_
  have k1 := h_sheet l hlf g M x cs hW hnx
  rcases op_cases (oi_as hG) hA hR9 with ⟨w, fl, hw, hv, hs, hg⟩ | ⟨hv, hs⟩
  · rw [show v_sheet cs = nI w from hv] at k1
    refine k_SX1 hc [.ref x] cw_L_177 dL_changes_188 k1 hM hS hl.1 rfl rfl ⟨by omega, by omega⟩ ⟨by omega, by omega⟩ (Nat.le_of_ble_eq_true rfl) (fun H locs hM hS => ?_)
    refine lv_if_lt (tgt := 198) hx hb dL_changes_191 (by decide) (fun c_191 => absurd c_191 (nI_pos (by omega))) (fun c_191 => ?_)
    refine lv_iconst (v := 1) hx hb dL_changes_194 (by decide) ?_
    refine lv_goto (tgt := 199) hx hb dL_changes_195 (by decide) ?_
    exact k_zretv hc hr dL_changes_199 hM hS (by rfl) (by omega) (by omega) ⟨_, rfl, Or.inl ⟨rfl, fl, hs, hg.mono (by omega)⟩⟩
  · rw [show v_sheet cs = -1001 from hv] at k1
    refine k_SX1 hc [.ref x] cw_L_177 dL_changes_188 k1 hM hS hl.1 rfl rfl ⟨by omega, by omega⟩ ⟨by omega, by omega⟩ (Nat.le_of_ble_eq_true rfl) (fun H locs hM hS => ?_)
    refine lv_if_lt (tgt := 198) hx hb dL_changes_191 (by decide) (fun c_191 => ?_) (fun c_191 => absurd (by decide) c_191)
    refine lv_iconst (v := 0) hx hb dL_changes_198 (by decide) ?_
    exact k_zretv hc hr dL_changes_199 hM hS (by rfl) (by omega) (by omega) ⟨_, rfl, Or.inr ⟨rfl, hs⟩⟩
set_option maxHeartbeats 4000000 in
theorem ch_200 (hc : Cx g p l s m args meth c cL_changes 5 RL) (hlf : l.stackTraces = false) (hr : meth.sig.returnType = some .boolean) (hfr : 13 ≤ R.frames) (hlo : 780 ≤ R.locals) (hce : cells + 90 ≤ 100) (hse : slots + 540 ≤ 600) (hRc : 100 ≤ R.cells) (hRs : 600 ≤ R.slots) (hW : ClsAt g M x cs) (hG : GI n (cs 0)) (hn : n + 48 * 61 < 2 ^ 30) (hA : Aux cs) (hR9 : Rg nx sz cs)
    (hM : hR g M H) (hS : va_S (gA g) s.heap H locs) (hl : lv_has ls 5 [(4, .int vc), (3, .int vh), (2, .int vs), (0, .ref x), (1, .int xx)]) :
    W p l e R s m args below meth c H locs cells slots (vx_MQ below (KQv g (ChS g M x cs n nx sz)) KXn args s 100 600 (gA g)) (F0 m 200 ls []) := by
  have hx := hc.1
  have hb := hc.2.1
  have hnx := hR9.ok
  refine lv_aload_n hx hb dL_changes_200 rfl (lv_at hl 3 rfl) ?_
  refine lv_iload_n hx hb dL_changes_201 rfl (lv_at hl 4 rfl) ?_
  refine lv_iconst (v := 4) hx hb dL_changes_202 (by decide) ?_
  refine lv_ishr hx hb dL_changes_203 ?_
  refine lv_bipush (v := 11) hx hb dL_changes_204 (by decide) ?_
  refine k_S1 hc [.int (xx >>> (4 &&& 31)), .int 11] cw_L_169 dL_changes_206 (c_L_some l hlf g _ (xx >>> (4 &&& 31)) 11 (by decide)) hM hS hl.1 rfl rfl ⟨by omega, by omega⟩ ⟨by omega, by omega⟩ (Nat.le_of_ble_eq_true rfl) (fun H locs hM hS => ?_)
  have k1 := h_heat l hlf g M x cs (smF (xx >>> (4 &&& 31)) 11) hW hnx
  rcases op_cases (oi_sh hG (smF (xx >>> (4 &&& 31)) 11)) hA hR9 with ⟨w, fl, hw, hv, hs, hg⟩ | ⟨hv, hs⟩
  · rw [show v_heat cs (smF (xx >>> (4 &&& 31)) 11) = nI w from hv] at k1
    refine k_SX1 hc [.ref x, .int (smF (xx >>> (4 &&& 31)) 11)] cw_L_181 dL_changes_209 k1 hM hS hl.1 rfl rfl ⟨by omega, by omega⟩ ⟨by omega, by omega⟩ (Nat.le_of_ble_eq_true rfl) (fun H locs hM hS => ?_)
    refine lv_if_lt (tgt := 219) hx hb dL_changes_212 (by decide) (fun c_212 => absurd c_212 (nI_pos (by omega))) (fun c_212 => ?_)
    refine lv_iconst (v := 1) hx hb dL_changes_215 (by decide) ?_
    refine lv_goto (tgt := 220) hx hb dL_changes_216 (by decide) ?_
    exact k_zretv hc hr dL_changes_220 hM hS (by rfl) (by omega) (by omega) ⟨_, rfl, Or.inl ⟨rfl, fl, hs, hg.mono (by omega)⟩⟩
  · rw [show v_heat cs (smF (xx >>> (4 &&& 31)) 11) = -1001 from hv] at k1
    refine k_SX1 hc [.ref x, .int (smF (xx >>> (4 &&& 31)) 11)] cw_L_181 dL_changes_209 k1 hM hS hl.1 rfl rfl ⟨by omega, by omega⟩ ⟨by omega, by omega⟩ (Nat.le_of_ble_eq_true rfl) (fun H locs hM hS => ?_)
    refine lv_if_lt (tgt := 219) hx hb dL_changes_212 (by decide) (fun c_212 => ?_) (fun c_212 => absurd (by decide) c_212)
    refine lv_iconst (v := 0) hx hb dL_changes_219 (by decide) ?_
    exact k_zretv hc hr dL_changes_220 hM hS (by rfl) (by omega) (by omega) ⟨_, rfl, Or.inr ⟨rfl, hs⟩⟩
set_option maxHeartbeats 4000000 in
theorem ch_221 (hc : Cx g p l s m args meth c cL_changes 5 RL) (hlf : l.stackTraces = false) (hr : meth.sig.returnType = some .boolean) (hfr : 13 ≤ R.frames) (hlo : 780 ≤ R.locals) (hce : cells + 90 ≤ 100) (hse : slots + 540 ≤ 600) (hRc : 100 ≤ R.cells) (hRs : 600 ≤ R.slots) (hW : ClsAt g M x cs) (hG : GI n (cs 0)) (hn : n + 48 * 61 < 2 ^ 30) (hA : Aux cs) (hR9 : Rg nx sz cs)
    (hM : hR g M H) (hS : va_S (gA g) s.heap H locs) (hl : lv_has ls 5 [(4, .int vc), (3, .int vh), (2, .int vs), (0, .ref x), (1, .int xx)]) :
    W p l e R s m args below meth c H locs cells slots (vx_MQ below (KQv g (ChS g M x cs n nx sz)) KXn args s 100 600 (gA g)) (F0 m 221 ls []) := by
  have hx := hc.1
  have hb := hc.2.1
  have hnx := hR9.ok
  have hG0 := hG
  refine lv_aload_n hx hb dL_changes_221 rfl (lv_at hl 3 rfl) ?_
  refine lv_iload_n hx hb dL_changes_222 rfl (lv_at hl 2 rfl) ?_
  refine lv_iload_n hx hb dL_changes_223 rfl (lv_at hl 4 rfl) ?_
  refine lv_bipush (v := 7) hx hb dL_changes_224 (by decide) ?_
  refine lv_ishr hx hb dL_changes_226 ?_
  refine lv_aload_n hx hb dL_changes_227 rfl (lv_at hl 3 rfl) ?_
  refine lv_iconst (v := 5) hx hb dL_changes_228 (by decide) ?_
  obtain ⟨ns, np, nh, nc, t9, dh, cu, ht9, hF⟩ := hG
  have bF := hF.1
  have k1 := h_account l hlf g M x cs 5 hW
  rw [show v_account cs 5 = (nI np) from ac_5 hF] at k1
  refine k_SX1 hc [.ref x, .int 5] cw_L_205 dL_changes_229 k1 hM hS hl.1 rfl rfl ⟨by omega, by omega⟩ ⟨by omega, by omega⟩ (Nat.le_of_ble_eq_true rfl) (fun H locs hM hS => ?_)
  refine lv_iconst (v := 1) hx hb dL_changes_232 (by decide) ?_
  refine lv_iadd hx hb dL_changes_233 ?_
  refine k_S1 hc [.int (xx >>> (7 &&& 31)), .int ((nI np) + 1)] cw_L_169 dL_changes_234 (c_L_some l hlf g _ (xx >>> (7 &&& 31)) ((nI np) + 1) (nz_1 _ (by omega))) hM hS hl.1 rfl rfl ⟨by omega, by omega⟩ ⟨by omega, by omega⟩ (Nat.le_of_ble_eq_true rfl) (fun H locs hM hS => ?_)
  refine lv_iload_n hx hb dL_changes_237 rfl (lv_at hl 1 rfl) ?_
  have k1 := h_sight l hlf g M x cs vs (smF (xx >>> (7 &&& 31)) ((nI np) + 1)) vh hW hnx
  rcases op_cases (oi_sg hG0 vs (smF (xx >>> (7 &&& 31)) ((nI np) + 1)) vh) hA hR9 with ⟨w, fl, hw, hv, hs, hg⟩ | ⟨hv, hs⟩
  · rw [show v_sight cs vs (smF (xx >>> (7 &&& 31)) ((nI np) + 1)) vh = nI w from hv] at k1
    refine k_SX1 hc [.ref x, .int vs, .int (smF (xx >>> (7 &&& 31)) ((nI np) + 1)), .int vh] cw_L_234 dL_changes_238 k1 hM hS hl.1 rfl rfl ⟨by omega, by omega⟩ ⟨by omega, by omega⟩ (Nat.le_of_ble_eq_true rfl) (fun H locs hM hS => ?_)
    refine lv_if_lt (tgt := 248) hx hb dL_changes_241 (by decide) (fun c_241 => absurd c_241 (nI_pos (by omega))) (fun c_241 => ?_)
    refine lv_iconst (v := 1) hx hb dL_changes_244 (by decide) ?_
    refine lv_goto (tgt := 249) hx hb dL_changes_245 (by decide) ?_
    exact k_zretv hc hr dL_changes_249 hM hS (by rfl) (by omega) (by omega) ⟨_, rfl, Or.inl ⟨rfl, fl, hs, hg.mono (by omega)⟩⟩
  · rw [show v_sight cs vs (smF (xx >>> (7 &&& 31)) ((nI np) + 1)) vh = -1001 from hv] at k1
    refine k_SX1 hc [.ref x, .int vs, .int (smF (xx >>> (7 &&& 31)) ((nI np) + 1)), .int vh] cw_L_234 dL_changes_238 k1 hM hS hl.1 rfl rfl ⟨by omega, by omega⟩ ⟨by omega, by omega⟩ (Nat.le_of_ble_eq_true rfl) (fun H locs hM hS => ?_)
    refine lv_if_lt (tgt := 248) hx hb dL_changes_241 (by decide) (fun c_241 => ?_) (fun c_241 => absurd (by decide) c_241)
    refine lv_iconst (v := 0) hx hb dL_changes_248 (by decide) ?_
    exact k_zretv hc hr dL_changes_249 hM hS (by rfl) (by omega) (by omega) ⟨_, rfl, Or.inr ⟨rfl, hs⟩⟩
set_option maxHeartbeats 4000000 in
theorem ch_250 (hc : Cx g p l s m args meth c cL_changes 5 RL) (hlf : l.stackTraces = false) (hr : meth.sig.returnType = some .boolean) (hfr : 13 ≤ R.frames) (hlo : 780 ≤ R.locals) (hce : cells + 90 ≤ 100) (hse : slots + 540 ≤ 600) (hRc : 100 ≤ R.cells) (hRs : 600 ≤ R.slots) (hW : ClsAt g M x cs) (hG : GI n (cs 0)) (hn : n + 48 * 61 < 2 ^ 30) (hA : Aux cs) (hR9 : Rg nx sz cs)
    (hM : hR g M H) (hS : va_S (gA g) s.heap H locs) (hl : lv_has ls 5 [(4, .int vc), (3, .int vh), (2, .int vs), (0, .ref x), (1, .int xx)]) :
    W p l e R s m args below meth c H locs cells slots (vx_MQ below (KQv g (ChS g M x cs n nx sz)) KXn args s 100 600 (gA g)) (F0 m 250 ls []) := by
  have hx := hc.1
  have hb := hc.2.1
  have hnx := hR9.ok
  refine lv_aload_n hx hb dL_changes_250 rfl (lv_at hl 3 rfl) ?_
  refine lv_iload_n hx hb dL_changes_251 rfl (lv_at hl 2 rfl) ?_
  refine lv_iload_n hx hb dL_changes_252 rfl (lv_at hl 1 rfl) ?_
  have k1 := h_erase l hlf g M x cs vs vh hW hnx
  rcases op_cases (oi_er hG vs vh) hA hR9 with ⟨w, fl, hw, hv, hs, hg⟩ | ⟨hv, hs⟩
  · rw [show v_erase cs vs vh = nI w from hv] at k1
    refine k_SX1 hc [.ref x, .int vs, .int vh] cw_L_237 dL_changes_253 k1 hM hS hl.1 rfl rfl ⟨by omega, by omega⟩ ⟨by omega, by omega⟩ (Nat.le_of_ble_eq_true rfl) (fun H locs hM hS => ?_)
    refine lv_if_lt (tgt := 263) hx hb dL_changes_256 (by decide) (fun c_256 => absurd c_256 (nI_pos (by omega))) (fun c_256 => ?_)
    refine lv_iconst (v := 1) hx hb dL_changes_259 (by decide) ?_
    refine lv_goto (tgt := 264) hx hb dL_changes_260 (by decide) ?_
    exact k_zretv hc hr dL_changes_264 hM hS (by rfl) (by omega) (by omega) ⟨_, rfl, Or.inl ⟨rfl, fl, hs, hg.mono (by omega)⟩⟩
  · rw [show v_erase cs vs vh = -1001 from hv] at k1
    refine k_SX1 hc [.ref x, .int vs, .int vh] cw_L_237 dL_changes_253 k1 hM hS hl.1 rfl rfl ⟨by omega, by omega⟩ ⟨by omega, by omega⟩ (Nat.le_of_ble_eq_true rfl) (fun H locs hM hS => ?_)
    refine lv_if_lt (tgt := 263) hx hb dL_changes_256 (by decide) (fun c_256 => ?_) (fun c_256 => absurd (by decide) c_256)
    refine lv_iconst (v := 0) hx hb dL_changes_263 (by decide) ?_
    exact k_zretv hc hr dL_changes_264 hM hS (by rfl) (by omega) (by omega) ⟨_, rfl, Or.inr ⟨rfl, hs⟩⟩
set_option maxHeartbeats 4000000 in
theorem ch_265 (hc : Cx g p l s m args meth c cL_changes 5 RL) (hlf : l.stackTraces = false) (hr : meth.sig.returnType = some .boolean) (hfr : 13 ≤ R.frames) (hlo : 780 ≤ R.locals) (hce : cells + 90 ≤ 100) (hse : slots + 540 ≤ 600) (hRc : 100 ≤ R.cells) (hRs : 600 ≤ R.slots) (hW : ClsAt g M x cs) (hG : GI n (cs 0)) (hn : n + 48 * 61 < 2 ^ 30) (hA : Aux cs) (hR9 : Rg nx sz cs)
    (hM : hR g M H) (hS : va_S (gA g) s.heap H locs) (hl : lv_has ls 5 [(4, .int vc), (3, .int vh), (2, .int vs), (0, .ref x), (1, .int xx)]) :
    W p l e R s m args below meth c H locs cells slots (vx_MQ below (KQv g (ChS g M x cs n nx sz)) KXn args s 100 600 (gA g)) (F0 m 265 ls []) := by
  have hx := hc.1
  have hb := hc.2.1
  have hnx := hR9.ok
  refine lv_aload_n hx hb dL_changes_265 rfl (lv_at hl 3 rfl) ?_
  refine lv_iload_n hx hb dL_changes_266 rfl (lv_at hl 4 rfl) ?_
  refine lv_iconst (v := 4) hx hb dL_changes_267 (by decide) ?_
  refine lv_ishr hx hb dL_changes_268 ?_
  refine lv_bipush (v := 101) hx hb dL_changes_269 (by decide) ?_
  refine k_S1 hc [.int (xx >>> (4 &&& 31)), .int 101] cw_L_169 dL_changes_271 (c_L_some l hlf g _ (xx >>> (4 &&& 31)) 101 (by decide)) hM hS hl.1 rfl rfl ⟨by omega, by omega⟩ ⟨by omega, by omega⟩ (Nat.le_of_ble_eq_true rfl) (fun H locs hM hS => ?_)
  have k1 := h_camel l hlf g M x cs (smF (xx >>> (4 &&& 31)) 101) hW hnx
  rcases op_cases (oi_ca hG (smF (xx >>> (4 &&& 31)) 101)) hA hR9 with ⟨w, fl, hw, hv, hs, hg⟩ | ⟨hv, hs⟩
  · rw [show v_camel cs (smF (xx >>> (4 &&& 31)) 101) = nI w from hv] at k1
    refine k_SX1 hc [.ref x, .int (smF (xx >>> (4 &&& 31)) 101)] cw_L_179 dL_changes_274 k1 hM hS hl.1 rfl rfl ⟨by omega, by omega⟩ ⟨by omega, by omega⟩ (Nat.le_of_ble_eq_true rfl) (fun H locs hM hS => ?_)
    refine lv_if_lt (tgt := 284) hx hb dL_changes_277 (by decide) (fun c_277 => absurd c_277 (nI_pos (by omega))) (fun c_277 => ?_)
    refine lv_iconst (v := 1) hx hb dL_changes_280 (by decide) ?_
    refine lv_goto (tgt := 285) hx hb dL_changes_281 (by decide) ?_
    exact k_zretv hc hr dL_changes_285 hM hS (by rfl) (by omega) (by omega) ⟨_, rfl, Or.inl ⟨rfl, fl, hs, hg.mono (by omega)⟩⟩
  · rw [show v_camel cs (smF (xx >>> (4 &&& 31)) 101) = -1001 from hv] at k1
    refine k_SX1 hc [.ref x, .int (smF (xx >>> (4 &&& 31)) 101)] cw_L_179 dL_changes_274 k1 hM hS hl.1 rfl rfl ⟨by omega, by omega⟩ ⟨by omega, by omega⟩ (Nat.le_of_ble_eq_true rfl) (fun H locs hM hS => ?_)
    refine lv_if_lt (tgt := 284) hx hb dL_changes_277 (by decide) (fun c_277 => ?_) (fun c_277 => absurd (by decide) c_277)
    refine lv_iconst (v := 0) hx hb dL_changes_284 (by decide) ?_
    exact k_zretv hc hr dL_changes_285 hM hS (by rfl) (by omega) (by omega) ⟨_, rfl, Or.inr ⟨rfl, hs⟩⟩
set_option maxHeartbeats 4000000 in
theorem ch_286 (hc : Cx g p l s m args meth c cL_changes 5 RL) (hlf : l.stackTraces = false) (hr : meth.sig.returnType = some .boolean) (hfr : 13 ≤ R.frames) (hlo : 780 ≤ R.locals) (hce : cells + 90 ≤ 100) (hse : slots + 540 ≤ 600) (hRc : 100 ≤ R.cells) (hRs : 600 ≤ R.slots) (hW : ClsAt g M x cs) (hG : GI n (cs 0)) (hn : n + 48 * 61 < 2 ^ 30) (hA : Aux cs) (hR9 : Rg nx sz cs)
    (hM : hR g M H) (hS : va_S (gA g) s.heap H locs) (hl : lv_has ls 5 [(4, .int vc), (3, .int vh), (2, .int vs), (0, .ref x), (1, .int xx)]) :
    W p l e R s m args below meth c H locs cells slots (vx_MQ below (KQv g (ChS g M x cs n nx sz)) KXn args s 100 600 (gA g)) (F0 m 286 ls []) := by
  have hx := hc.1
  have hb := hc.2.1
  have hnx := hR9.ok
  refine lv_aload_n hx hb dL_changes_286 rfl (lv_at hl 3 rfl) ?_
  refine lv_iload_n hx hb dL_changes_287 rfl (lv_at hl 4 rfl) ?_
  refine lv_iconst (v := 4) hx hb dL_changes_288 (by decide) ?_
  refine lv_ishr hx hb dL_changes_289 ?_
  refine lv_bipush (v := 101) hx hb dL_changes_290 (by decide) ?_
  refine k_S1 hc [.int (xx >>> (4 &&& 31)), .int 101] cw_L_169 dL_changes_292 (c_L_some l hlf g _ (xx >>> (4 &&& 31)) 101 (by decide)) hM hS hl.1 rfl rfl ⟨by omega, by omega⟩ ⟨by omega, by omega⟩ (Nat.le_of_ble_eq_true rfl) (fun H locs hM hS => ?_)
  have k1 := h_bell l hlf g M x cs (smF (xx >>> (4 &&& 31)) 101) hW hnx
  rcases op_cases (oi_rb hG (smF (xx >>> (4 &&& 31)) 101)) hA hR9 with ⟨w, fl, hw, hv, hs, hg⟩ | ⟨hv, hs⟩
  · rw [show v_bell cs (smF (xx >>> (4 &&& 31)) 101) = nI w from hv] at k1
    refine k_SX1 hc [.ref x, .int (smF (xx >>> (4 &&& 31)) 101)] cw_L_239 dL_changes_295 k1 hM hS hl.1 rfl rfl ⟨by omega, by omega⟩ ⟨by omega, by omega⟩ (Nat.le_of_ble_eq_true rfl) (fun H locs hM hS => ?_)
    refine lv_if_lt (tgt := 305) hx hb dL_changes_298 (by decide) (fun c_298 => absurd c_298 (nI_pos (by omega))) (fun c_298 => ?_)
    refine lv_iconst (v := 1) hx hb dL_changes_301 (by decide) ?_
    refine lv_goto (tgt := 306) hx hb dL_changes_302 (by decide) ?_
    exact k_zretv hc hr dL_changes_306 hM hS (by rfl) (by omega) (by omega) ⟨_, rfl, Or.inl ⟨rfl, fl, hs, hg.mono (by omega)⟩⟩
  · rw [show v_bell cs (smF (xx >>> (4 &&& 31)) 101) = -1001 from hv] at k1
    refine k_SX1 hc [.ref x, .int (smF (xx >>> (4 &&& 31)) 101)] cw_L_239 dL_changes_295 k1 hM hS hl.1 rfl rfl ⟨by omega, by omega⟩ ⟨by omega, by omega⟩ (Nat.le_of_ble_eq_true rfl) (fun H locs hM hS => ?_)
    refine lv_if_lt (tgt := 305) hx hb dL_changes_298 (by decide) (fun c_298 => ?_) (fun c_298 => absurd (by decide) c_298)
    refine lv_iconst (v := 0) hx hb dL_changes_305 (by decide) ?_
    exact k_zretv hc hr dL_changes_306 hM hS (by rfl) (by omega) (by omega) ⟨_, rfl, Or.inr ⟨rfl, hs⟩⟩
set_option maxHeartbeats 4000000 in
theorem ch_307 (hc : Cx g p l s m args meth c cL_changes 5 RL) (hlf : l.stackTraces = false) (hr : meth.sig.returnType = some .boolean) (hfr : 13 ≤ R.frames) (hlo : 780 ≤ R.locals) (hce : cells + 90 ≤ 100) (hse : slots + 540 ≤ 600) (hRc : 100 ≤ R.cells) (hRs : 600 ≤ R.slots) (hW : ClsAt g M x cs) (hG : GI n (cs 0)) (hn : n + 48 * 61 < 2 ^ 30) (hA : Aux cs) (hR9 : Rg nx sz cs)
    (hM : hR g M H) (hS : va_S (gA g) s.heap H locs) (hl : lv_has ls 5 [(4, .int vc), (3, .int vh), (2, .int vs), (0, .ref x), (1, .int xx)]) :
    W p l e R s m args below meth c H locs cells slots (vx_MQ below (KQv g (ChS g M x cs n nx sz)) KXn args s 100 600 (gA g)) (F0 m 307 ls []) := by
  have hx := hc.1
  have hb := hc.2.1
  have hnx := hR9.ok
  refine lv_aload_n hx hb dL_changes_307 rfl (lv_at hl 3 rfl) ?_
  refine lv_iload hx hb dL_changes_308 (lv_at hl 0 rfl) ?_
  have k1 := h_tie l hlf g M x cs vc hW hnx
  rcases op_cases (oi_ti hG vc) hA hR9 with ⟨w, fl, hw, hv, hs, hg⟩ | ⟨hv, hs⟩
  · rw [show v_tie cs vc = nI w from hv] at k1
    refine k_SX1 hc [.ref x, .int vc] cw_L_241 dL_changes_310 k1 hM hS hl.1 rfl rfl ⟨by omega, by omega⟩ ⟨by omega, by omega⟩ (Nat.le_of_ble_eq_true rfl) (fun H locs hM hS => ?_)
    refine lv_if_lt (tgt := 320) hx hb dL_changes_313 (by decide) (fun c_313 => absurd c_313 (nI_pos (by omega))) (fun c_313 => ?_)
    refine lv_iconst (v := 1) hx hb dL_changes_316 (by decide) ?_
    refine lv_goto (tgt := 321) hx hb dL_changes_317 (by decide) ?_
    exact k_zretv hc hr dL_changes_321 hM hS (by rfl) (by omega) (by omega) ⟨_, rfl, Or.inl ⟨rfl, fl, hs, hg.mono (by omega)⟩⟩
  · rw [show v_tie cs vc = -1001 from hv] at k1
    refine k_SX1 hc [.ref x, .int vc] cw_L_241 dL_changes_310 k1 hM hS hl.1 rfl rfl ⟨by omega, by omega⟩ ⟨by omega, by omega⟩ (Nat.le_of_ble_eq_true rfl) (fun H locs hM hS => ?_)
    refine lv_if_lt (tgt := 320) hx hb dL_changes_313 (by decide) (fun c_313 => ?_) (fun c_313 => absurd (by decide) c_313)
    refine lv_iconst (v := 0) hx hb dL_changes_320 (by decide) ?_
    exact k_zretv hc hr dL_changes_321 hM hS (by rfl) (by omega) (by omega) ⟨_, rfl, Or.inr ⟨rfl, hs⟩⟩
set_option maxHeartbeats 4000000 in
theorem ch_322 (hc : Cx g p l s m args meth c cL_changes 5 RL) (hlf : l.stackTraces = false) (hr : meth.sig.returnType = some .boolean) (hfr : 13 ≤ R.frames) (hlo : 780 ≤ R.locals) (hce : cells + 90 ≤ 100) (hse : slots + 540 ≤ 600) (hRc : 100 ≤ R.cells) (hRs : 600 ≤ R.slots) (hW : ClsAt g M x cs) (hG : GI n (cs 0)) (hn : n + 48 * 61 < 2 ^ 30) (hA : Aux cs) (hR9 : Rg nx sz cs)
    (hM : hR g M H) (hS : va_S (gA g) s.heap H locs) (hl : lv_has ls 5 [(4, .int vc), (3, .int vh), (2, .int vs), (0, .ref x), (1, .int xx)]) :
    W p l e R s m args below meth c H locs cells slots (vx_MQ below (KQv g (ChS g M x cs n nx sz)) KXn args s 100 600 (gA g)) (F0 m 322 ls []) := by
  have hx := hc.1
  have hb := hc.2.1
  have hnx := hR9.ok
  refine lv_aload_n hx hb dL_changes_322 rfl (lv_at hl 3 rfl) ?_
  refine lv_iload hx hb dL_changes_323 (lv_at hl 0 rfl) ?_
  have k1 := h_loose l hlf g M x cs vc hW hnx
  rcases op_cases (oi_lo hG vc) hA hR9 with ⟨w, fl, hw, hv, hs, hg⟩ | ⟨hv, hs⟩
  · rw [show v_loose cs vc = nI w from hv] at k1
    refine k_SX1 hc [.ref x, .int vc] cw_L_243 dL_changes_325 k1 hM hS hl.1 rfl rfl ⟨by omega, by omega⟩ ⟨by omega, by omega⟩ (Nat.le_of_ble_eq_true rfl) (fun H locs hM hS => ?_)
    refine lv_if_lt (tgt := 335) hx hb dL_changes_328 (by decide) (fun c_328 => absurd c_328 (nI_pos (by omega))) (fun c_328 => ?_)
    refine lv_iconst (v := 1) hx hb dL_changes_331 (by decide) ?_
    refine lv_goto (tgt := 336) hx hb dL_changes_332 (by decide) ?_
    exact k_zretv hc hr dL_changes_336 hM hS (by rfl) (by omega) (by omega) ⟨_, rfl, Or.inl ⟨rfl, fl, hs, hg.mono (by omega)⟩⟩
  · rw [show v_loose cs vc = -1001 from hv] at k1
    refine k_SX1 hc [.ref x, .int vc] cw_L_243 dL_changes_325 k1 hM hS hl.1 rfl rfl ⟨by omega, by omega⟩ ⟨by omega, by omega⟩ (Nat.le_of_ble_eq_true rfl) (fun H locs hM hS => ?_)
    refine lv_if_lt (tgt := 335) hx hb dL_changes_328 (by decide) (fun c_328 => ?_) (fun c_328 => absurd (by decide) c_328)
    refine lv_iconst (v := 0) hx hb dL_changes_335 (by decide) ?_
    exact k_zretv hc hr dL_changes_336 hM hS (by rfl) (by omega) (by omega) ⟨_, rfl, Or.inr ⟨rfl, hs⟩⟩
set_option maxHeartbeats 4000000 in
theorem ch_337 (hc : Cx g p l s m args meth c cL_changes 5 RL) (hlf : l.stackTraces = false) (hr : meth.sig.returnType = some .boolean) (hfr : 13 ≤ R.frames) (hlo : 780 ≤ R.locals) (hce : cells + 90 ≤ 100) (hse : slots + 540 ≤ 600) (hRc : 100 ≤ R.cells) (hRs : 600 ≤ R.slots) (hW : ClsAt g M x cs) (hG : GI n (cs 0)) (hn : n + 48 * 61 < 2 ^ 30) (hA : Aux cs) (hR9 : Rg nx sz cs)
    (hM : hR g M H) (hS : va_S (gA g) s.heap H locs) (hl : lv_has ls 5 [(4, .int vc), (3, .int vh), (2, .int vs), (0, .ref x), (1, .int xx)]) :
    W p l e R s m args below meth c H locs cells slots (vx_MQ below (KQv g (ChS g M x cs n nx sz)) KXn args s 100 600 (gA g)) (F0 m 337 ls []) := by
  have hx := hc.1
  have hb := hc.2.1
  have hnx := hR9.ok
  refine lv_aload_n hx hb dL_changes_337 rfl (lv_at hl 3 rfl) ?_
  refine lv_iload hx hb dL_changes_338 (lv_at hl 0 rfl) ?_
  have k1 := h_drink l hlf g M x cs vc hW hnx
  rcases op_cases (oi_wc hG vc) hA hR9 with ⟨w, fl, hw, hv, hs, hg⟩ | ⟨hv, hs⟩
  · rw [show v_drink cs vc = nI w from hv] at k1
    refine k_SX1 hc [.ref x, .int vc] cw_L_245 dL_changes_340 k1 hM hS hl.1 rfl rfl ⟨by omega, by omega⟩ ⟨by omega, by omega⟩ (Nat.le_of_ble_eq_true rfl) (fun H locs hM hS => ?_)
    refine lv_if_lt (tgt := 350) hx hb dL_changes_343 (by decide) (fun c_343 => absurd c_343 (nI_pos (by omega))) (fun c_343 => ?_)
    refine lv_iconst (v := 1) hx hb dL_changes_346 (by decide) ?_
    refine lv_goto (tgt := 351) hx hb dL_changes_347 (by decide) ?_
    exact k_zretv hc hr dL_changes_351 hM hS (by rfl) (by omega) (by omega) ⟨_, rfl, Or.inl ⟨rfl, fl, hs, hg.mono (by omega)⟩⟩
  · rw [show v_drink cs vc = -1001 from hv] at k1
    refine k_SX1 hc [.ref x, .int vc] cw_L_245 dL_changes_340 k1 hM hS hl.1 rfl rfl ⟨by omega, by omega⟩ ⟨by omega, by omega⟩ (Nat.le_of_ble_eq_true rfl) (fun H locs hM hS => ?_)
    refine lv_if_lt (tgt := 350) hx hb dL_changes_343 (by decide) (fun c_343 => ?_) (fun c_343 => absurd (by decide) c_343)
    refine lv_iconst (v := 0) hx hb dL_changes_350 (by decide) ?_
    exact k_zretv hc hr dL_changes_351 hM hS (by rfl) (by omega) (by omega) ⟨_, rfl, Or.inr ⟨rfl, hs⟩⟩
set_option maxHeartbeats 4000000 in
theorem ch_352 (hc : Cx g p l s m args meth c cL_changes 5 RL) (hlf : l.stackTraces = false) (hr : meth.sig.returnType = some .boolean) (hfr : 13 ≤ R.frames) (hlo : 780 ≤ R.locals) (hce : cells + 90 ≤ 100) (hse : slots + 540 ≤ 600) (hRc : 100 ≤ R.cells) (hRs : 600 ≤ R.slots) (hW : ClsAt g M x cs) (hG : GI n (cs 0)) (hn : n + 48 * 61 < 2 ^ 30) (hA : Aux cs) (hR9 : Rg nx sz cs)
    (hM : hR g M H) (hS : va_S (gA g) s.heap H locs) (hl : lv_has ls 5 [(4, .int vc), (3, .int vh), (2, .int vs), (0, .ref x), (1, .int xx)]) :
    W p l e R s m args below meth c H locs cells slots (vx_MQ below (KQv g (ChS g M x cs n nx sz)) KXn args s 100 600 (gA g)) (F0 m 352 ls []) := by
  have hx := hc.1
  have hb := hc.2.1
  have hnx := hR9.ok
  refine lv_aload_n hx hb dL_changes_352 rfl (lv_at hl 3 rfl) ?_
  refine lv_iload_n hx hb dL_changes_353 rfl (lv_at hl 4 rfl) ?_
  refine lv_iconst (v := 4) hx hb dL_changes_354 (by decide) ?_
  refine lv_ishr hx hb dL_changes_355 ?_
  refine lv_bipush (v := 102) hx hb dL_changes_356 (by decide) ?_
  refine k_S1 hc [.int (xx >>> (4 &&& 31)), .int 102] cw_L_169 dL_changes_358 (c_L_some l hlf g _ (xx >>> (4 &&& 31)) 102 (by decide)) hM hS hl.1 rfl rfl ⟨by omega, by omega⟩ ⟨by omega, by omega⟩ (Nat.le_of_ble_eq_true rfl) (fun H locs hM hS => ?_)
  have k1 := h_water l hlf g M x cs (smF (xx >>> (4 &&& 31)) 102) hW hnx
  rcases op_cases (oi_bw hG (smF (xx >>> (4 &&& 31)) 102)) hA hR9 with ⟨w, fl, hw, hv, hs, hg⟩ | ⟨hv, hs⟩
  · rw [show v_water cs (smF (xx >>> (4 &&& 31)) 102) = nI w from hv] at k1
    refine k_SX1 hc [.ref x, .int (smF (xx >>> (4 &&& 31)) 102)] cw_L_247 dL_changes_361 k1 hM hS hl.1 rfl rfl ⟨by omega, by omega⟩ ⟨by omega, by omega⟩ (Nat.le_of_ble_eq_true rfl) (fun H locs hM hS => ?_)
    refine lv_if_lt (tgt := 371) hx hb dL_changes_364 (by decide) (fun c_364 => absurd c_364 (nI_pos (by omega))) (fun c_364 => ?_)
    refine lv_iconst (v := 1) hx hb dL_changes_367 (by decide) ?_
    refine lv_goto (tgt := 372) hx hb dL_changes_368 (by decide) ?_
    exact k_zretv hc hr dL_changes_372 hM hS (by rfl) (by omega) (by omega) ⟨_, rfl, Or.inl ⟨rfl, fl, hs, hg.mono (by omega)⟩⟩
  · rw [show v_water cs (smF (xx >>> (4 &&& 31)) 102) = -1001 from hv] at k1
    refine k_SX1 hc [.ref x, .int (smF (xx >>> (4 &&& 31)) 102)] cw_L_247 dL_changes_361 k1 hM hS hl.1 rfl rfl ⟨by omega, by omega⟩ ⟨by omega, by omega⟩ (Nat.le_of_ble_eq_true rfl) (fun H locs hM hS => ?_)
    refine lv_if_lt (tgt := 371) hx hb dL_changes_364 (by decide) (fun c_364 => ?_) (fun c_364 => absurd (by decide) c_364)
    refine lv_iconst (v := 0) hx hb dL_changes_371 (by decide) ?_
    exact k_zretv hc hr dL_changes_372 hM hS (by rfl) (by omega) (by omega) ⟨_, rfl, Or.inr ⟨rfl, hs⟩⟩
set_option maxHeartbeats 4000000 in
theorem ch_373 (hc : Cx g p l s m args meth c cL_changes 5 RL) (hlf : l.stackTraces = false) (hr : meth.sig.returnType = some .boolean) (hfr : 13 ≤ R.frames) (hlo : 780 ≤ R.locals) (hce : cells + 90 ≤ 100) (hse : slots + 540 ≤ 600) (hRc : 100 ≤ R.cells) (hRs : 600 ≤ R.slots) (hW : ClsAt g M x cs) (hG : GI n (cs 0)) (hn : n + 48 * 61 < 2 ^ 30) (hA : Aux cs) (hR9 : Rg nx sz cs)
    (hM : hR g M H) (hS : va_S (gA g) s.heap H locs) (hl : lv_has ls 5 [(4, .int vc), (3, .int vh), (2, .int vs), (0, .ref x), (1, .int xx)]) :
    W p l e R s m args below meth c H locs cells slots (vx_MQ below (KQv g (ChS g M x cs n nx sz)) KXn args s 100 600 (gA g)) (F0 m 373 ls []) := by
  have hx := hc.1
  have hb := hc.2.1
  have hnx := hR9.ok
  refine lv_aload_n hx hb dL_changes_373 rfl (lv_at hl 3 rfl) ?_
  refine lv_iload_n hx hb dL_changes_374 rfl (lv_at hl 4 rfl) ?_
  refine lv_iconst (v := 4) hx hb dL_changes_375 (by decide) ?_
  refine lv_ishr hx hb dL_changes_376 ?_
  refine lv_bipush (v := 50) hx hb dL_changes_377 (by decide) ?_
  refine k_S1 hc [.int (xx >>> (4 &&& 31)), .int 50] cw_L_169 dL_changes_379 (c_L_some l hlf g _ (xx >>> (4 &&& 31)) 50 (by decide)) hM hS hl.1 rfl rfl ⟨by omega, by omega⟩ ⟨by omega, by omega⟩ (Nat.le_of_ble_eq_true rfl) (fun H locs hM hS => ?_)
  have k1 := h_hours l hlf g M x cs (smF (xx >>> (4 &&& 31)) 50) hW hnx
  rcases op_cases (oi_ph hG (by omega) (smF (xx >>> (4 &&& 31)) 50)) hA hR9 with ⟨w, fl, hw, hv, hs, hg⟩ | ⟨hv, hs⟩
  · rw [show v_hours cs (smF (xx >>> (4 &&& 31)) 50) = nI w from hv] at k1
    refine k_SX1 hc [.ref x, .int (smF (xx >>> (4 &&& 31)) 50)] cw_L_183 dL_changes_382 k1 hM hS hl.1 rfl rfl ⟨by omega, by omega⟩ ⟨by omega, by omega⟩ (Nat.le_of_ble_eq_true rfl) (fun H locs hM hS => ?_)
    refine lv_if_lt (tgt := 392) hx hb dL_changes_385 (by decide) (fun c_385 => absurd c_385 (nI_pos (by omega))) (fun c_385 => ?_)
    refine lv_iconst (v := 1) hx hb dL_changes_388 (by decide) ?_
    refine lv_goto (tgt := 393) hx hb dL_changes_389 (by decide) ?_
    exact k_zretv hc hr dL_changes_393 hM hS (by rfl) (by omega) (by omega) ⟨_, rfl, Or.inl ⟨rfl, fl, hs, hg.mono (by omega)⟩⟩
  · rw [show v_hours cs (smF (xx >>> (4 &&& 31)) 50) = -1001 from hv] at k1
    refine k_SX1 hc [.ref x, .int (smF (xx >>> (4 &&& 31)) 50)] cw_L_183 dL_changes_382 k1 hM hS hl.1 rfl rfl ⟨by omega, by omega⟩ ⟨by omega, by omega⟩ (Nat.le_of_ble_eq_true rfl) (fun H locs hM hS => ?_)
    refine lv_if_lt (tgt := 392) hx hb dL_changes_385 (by decide) (fun c_385 => ?_) (fun c_385 => absurd (by decide) c_385)
    refine lv_iconst (v := 0) hx hb dL_changes_392 (by decide) ?_
    exact k_zretv hc hr dL_changes_393 hM hS (by rfl) (by omega) (by omega) ⟨_, rfl, Or.inr ⟨rfl, hs⟩⟩
theorem sb_bt : ∀ i : Nat, 33 ≤ i → i < 39 → ∃ b, lw_by[i]? = some b ∧ b.length ≤ 2 ∧ (i ≠ 34 → i ≠ 36 → b.length ≤ 1) ∧ BtOk b.length (fun j => b.getD j 0) := by
  intro i h1 h2
  have : i = 33 ∨ i = 34 ∨ i = 35 ∨ i = 36 ∨ i = 37 ∨ i = 38 := by omega
  have hb : ∀ b : List Int32, (b.all fun v => decide ((-128 : Int32) ≤ v) && decide (v ≤ 127)) = true → BtOk b.length (fun j => b.getD j 0) := by
    intro b hb j hj
    have h3 := List.all_eq_true.mp hb (b[j]) (List.getElem_mem hj)
    show fits .byte (.int (b.getD j 0)) = true
    rw [List.getD_eq_getElem?_getD, List.getElem?_eq_getElem hj]
    exact h3
  rcases this with rfl | rfl | rfl | rfl | rfl | rfl <;> exact ⟨_, rfl, by decide, by decide, hb _ (by decide)⟩
theorem sm_w (v : Int32) {N : Nat} (h0 : 0 < N) (hN : N ≤ 100) : ∃ j, j < 100 ∧ smF v (nI N) = nI j := by
  obtain ⟨j, hj, e⟩ := smF_b v h0 (by omega)
  exact ⟨j, by omega, e⟩
theorem sz_le (w : Nat) : szD w ≤ 2 := by unfold szD; split <;> omega
theorem cw_sbi : CwI RL 251 0 yJ4_init_da8c8 cJ4_init_da8c8 1 := ⟨q_L_251, qi_J4_init_da8c8, qn_StringBuilder, qc_J4_init_da8c8, rfl, by decide, by decide, by decide +kernel⟩
theorem cw_sbs : CwV RL RJ4 254 1 yJ4_append_15ec4 cJ4_append_15ec4 2 (some (.object "java/lang/StringBuilder")) := ⟨q_L_254, qi_J4_append_15ec4, qs_J4_append_15ec4, qn_StringBuilder, qc_J4_append_15ec4, rfl, by decide, by decide, by decide +kernel⟩
theorem cw_sbn : CwV RL RJ4 257 1 yJ4_append_bf812 cJ4_append_bf812 2 (some (.object "java/lang/StringBuilder")) := ⟨q_L_257, qi_J4_append_bf812, qs_J4_append_bf812, qn_StringBuilder, qc_J4_append_bf812, rfl, by decide, by decide, by decide +kernel⟩
theorem cw_sbt : CwV RL RJ4 262 0 yJ4_toString_0e30d cJ4_toString_0e30d 1 (some (.object "java/lang/String")) := ⟨q_L_262, qi_J4_toString_0e30d, qs_J4_toString_0e30d, qn_StringBuilder, qc_J4_toString_0e30d, rfl, by decide, by decide, by decide +kernel⟩
/-- a virtual call of a relation's contract -/
theorem k_Vo (hc : Cx g p l s m args meth c cL_changes 5 RL) {Q : State → Prop} {rest st0 : List Value} {mc ms pc : Nat} {S : Option Value → HM → Prop} {C : String} {TT : u_T} {N ci b index n d nLc : Nat} {y : MethodName} {bc : ByteArray} {r : Option FieldType} (As : List Value) {fs : List Value} (hw : CwV RL C index n y bc nLc r) (hci : vwCl[ci]? = some (C, TT, N)) (hdg : decode cL_changes pc = .ok (.invokevirtual index, 3))
    (hK : KMo g l y bc nLc r d mc ms (.ref b :: As) M S) (he : M b = some (.inr (ci, fs))) (hM : hR g M H) (hS : va_S (gA g) s.heap H locs) (hl : ls.size = 5) (hn : As.length = n) (hst : As.reverse ++ .ref b :: rest = st0) (hroom : d + 1 ≤ R.frames ∧ 8 + (nLc + 11) + 60 * d ≤ R.locals) (hf : cells + mc ≤ R.cells ∧ slots + ms ≤ R.slots) (hW : (rest.map fun v => v.category).sum ≤ 8)
    (kk : ∀ (v : Option Value) (M1 : HM) (H1 : Heap) (locs1 : List Loc), S v M1 → hR g M1 H1 → va_S (gA g) s.heap H1 locs1 → W p l e R s m args below meth c H1 locs1 (cells + mc) (slots + ms) Q (F0 m (pc + 3) ls (v.toList ++ rest))) : W p l e R s m args below meth c H locs cells slots Q (F0 m pc ls st0) := by
  subst hst
  obtain ⟨w1, w2, w3, w4, w5, w6, w7, w8, w9⟩ := hw
  exact k_ranO (vx_runV (As := As) (rest := rest) ⟨hc.1, hc.2.1, hc.2.2.1, hc.2.2.2.1, hc.2.2.2.2.1⟩ hK (cwV n hc.2.2.2.2.1 (lw_gV w1 w2 w3 w4 w5) rfl rfl rfl ⟨w6, w7, w8, w9⟩ hroom) ⟨KP.blind, k_recv hc hM hci he, hc.pre hM hS⟩ rfl hn hl rfl (by show 2 * 0 + _ ≤ 8; omega) hdg hf) hS kk
theorem SbW.at {g : GC} {M0 M : HM} {a n : Nat} (h : SbW g M0 a n M) : ∃ fs, M a = some (.inr (8, fs)) := by
  obtain ⟨d, z, f, -, hA, -⟩ := h
  exact ⟨_, hA⟩
set_option maxHeartbeats 4000000 in
theorem ch_394 (hc : Cx g p l s m args meth c cL_changes 5 RL) (hlf : l.stackTraces = false) (hr : meth.sig.returnType = some .boolean) (hfr : 13 ≤ R.frames) (hlo : 780 ≤ R.locals) (hce : cells + 90 ≤ 100) (hse : slots + 540 ≤ 600) (hRc : 100 ≤ R.cells) (hRs : 600 ≤ R.slots) (hW : ClsAt g M x cs) (hG : GI n (cs 0)) (hn : n + 48 * 61 < 2 ^ 30) (hA : Aux cs) (hR9 : Rg nx sz cs)
    (hM : hR g M H) (hS : va_S (gA g) s.heap H locs) (hl : lv_has ls 5 [(4, .int vc), (3, .int vh), (2, .int vs), (0, .ref x), (1, .int xx)]) :
    W p l e R s m args below meth c H locs cells slots (vx_MQ below (KQv g (ChS g M x cs n nx sz)) KXn args s 100 600 (gA g)) (F0 m 394 ls []) := by
  have hx := hc.1
  have hb := hc.2.1
  have hnx := hR9.ok
  refine lv_aload_n hx hb dL_changes_394 rfl (lv_at hl 3 rfl) ?_
  refine lv_iload_n hx hb dL_changes_395 rfl (lv_at hl 4 rfl) ?_
  refine lv_bipush (v := 6) hx hb dL_changes_396 (by decide) ?_
  refine lv_ishr hx hb dL_changes_398 ?_
  refine lv_iconst (v := 1) hx hb dL_changes_399 (by decide) ?_
  refine lv_iand hx hb dL_changes_400 ?_
  have hend : ∀ (b k : Nat) (M9 : HM) (H : Heap) (locs : List Loc) (c1 s1 : Nat), StW g M b k M9 → k ≤ 16 → c1 ≤ cells + 30 → s1 ≤ slots + 200 → hR g M9 H → va_S (gA g) s.heap H locs → W p l e R s m args below meth c H locs c1 s1 (vx_MQ below (KQv g (ChS g M x cs n nx sz)) KXn args s 100 600 (gA g)) (F0 m 527 ls [.ref b, .ref x]) := by
    intro b k M9 H locs c1 s1 hT hk h1 h2 hM hS
    refine k_S1v hc [.ref x, .ref b] cw_L_274 dL_changes_527 (c_L_readsS l hlf g M9 x cs M b k hW hT hk hA.2 hA.1.1 hnx) hM hS hl.1 rfl rfl ⟨by omega, by omega⟩ ⟨by omega, by omega⟩ (Nat.le_of_ble_eq_true rfl) (fun v M1 H locs hs hM hS => ?_)
    obtain ⟨f, hv, h9⟩ := hs
    subst hv
    subst h9
    have h0 : ∀ q e9, M q = some e9 → M9 q = some e9 := by
      obtain ⟨_, _, _, _, h0, _⟩ := hT
      exact h0
    have hM : ∀ c9, hR g (putC g M9 x c9) H → hR g (putC g M x c9) H := fun c9 h => h.sub fun q e9 hq => by
      unfold putC at hq ⊢
      split at hq
      · rename_i h; rw [if_pos h]; exact hq
      · rename_i h; rw [if_neg h]; exact h0 q e9 hq
    have hM := hM _ ‹_›
    have hcond := read_cases (b := fun k => f k &&& 255) (L := k) hG hn hA hR9 (by omega) (fun k _ => sc_nar _)
    rcases hcond with ⟨w, fl, hw, hv, hs, hg⟩ | ⟨hv, hs⟩
    · rw [hv]
      refine lv_if_lt (tgt := 537) hx hb dL_changes_530 (by decide) (fun h => absurd h (nI_pos (by omega))) (fun _ => ?_)
      refine lv_iconst (v := 1) hx hb dL_changes_533 (by decide) ?_
      refine lv_goto (tgt := 538) hx hb dL_changes_534 (by decide) ?_
      exact k_zretv hc hr dL_changes_538 hM hS (by rfl) (by omega) (by omega) ⟨_, rfl, Or.inl ⟨rfl, fl, hs, hg⟩⟩
    · have hlt : v_commands (txS (fun k => f k &&& 255) cs k) < 0 := by
        rcases hv with hv | hv <;> rw [hv] <;> decide
      refine lv_if_lt (tgt := 537) hx hb dL_changes_530 (by decide) (fun _ => ?_) (fun h => absurd hlt h)
      refine lv_iconst (v := 0) hx hb dL_changes_537 (by decide) ?_
      exact k_zretv hc hr dL_changes_538 hM hS (by rfl) (by omega) (by omega) ⟨_, rfl, Or.inr ⟨rfl, hs⟩⟩
  refine lv_if_ne (tgt := 450) hx hb dL_changes_401 (by decide) (fun _ => ?_) (fun _ => ?_)
  · skip
    refine k_newX hc (T := TJ4) (ci := 8) in_J4 tyJ4 tyJ4_ok rfl ql_L_249 qm_StringBuilder qn_StringBuilder (fs := [.null, .int 0, .int 0, .int 0]) (fun j hj => ?_) dL_changes_450 hM hS (by omega) (by omega) (fun a H hno hM hS => ?_)
    · match j, hj with
      | 0, _ => rfl
      | 1, _ => rfl
      | 2, _ => rfl
      | 3, _ => rfl
    have h0 : ∀ q e9, M q = some e9 → upM M a (.inr (8, [.null, .int 0, .int 0, .int 0])) q = some e9 ∧ q ≠ a := fun q e9 hq => by
      have hqa : q ≠ a := fun h => by rw [h, hno] at hq; cases hq
      exact ⟨(upM_ne hqa).trans hq, hqa⟩
    refine lv_dup hx hb dL_changes_453 rfl ?_
    refine k_goIo hc [] cw_sbi dL_changes_454 (c_J4_init l hlf g M _ a h0 upM_at) hM hS hl.1 rfl rfl ⟨by omega, by omega⟩ ⟨by omega, by omega⟩ (Nat.le_of_ble_eq_true rfl) (fun v M1 H locs hs hM hS => ?_)
    obtain ⟨hv, hB⟩ := hs
    subst hv
    refine k_ldcw hc (k_str hc 35 rfl) dL_changes_457 ?_
    obtain ⟨b0, hi0, hb0, hq0, hbt0⟩ := sb_bt 35 (by omega) (by omega)
    have hb0 := hq0 (by omega) (by omega)
    clear hq0
    obtain ⟨fs0, hA0⟩ := hB.at
    refine k_Vo hc [.ref (g.2.2.2.1 35)] cw_sbs (ci := 8) rfl dL_changes_460 (c_J4_appendS l hlf g M _ a (0) hB 35 b0 hi0 hbt0 (by omega)) hA0 hM hS hl.1 rfl rfl ⟨by omega, by omega⟩ ⟨by omega, by omega⟩ (Nat.le_of_ble_eq_true rfl) (fun v M1 H locs hs hM hS => ?_)
    obtain ⟨hv, hB⟩ := hs
    subst hv
    refine lv_iload_n hx hb dL_changes_463 rfl (lv_at hl 4 rfl) ?_
    refine lv_iconst (v := 3) hx hb dL_changes_464 (by decide) ?_
    refine lv_ishr hx hb dL_changes_465 ?_
    refine lv_bipush (v := 7) hx hb dL_changes_466 (by decide) ?_
    refine k_S1 hc [.int (xx >>> (3 &&& 31)), .int 7] cw_L_169 dL_changes_468 (c_L_some l hlf g _ (xx >>> (3 &&& 31)) 7 (by decide)) hM hS hl.1 rfl rfl ⟨by omega, by omega⟩ ⟨by omega, by omega⟩ (Nat.le_of_ble_eq_true rfl) (fun H locs hM hS => ?_)
    obtain ⟨w1, hw1, ew1⟩ := sm_w (xx >>> (3 &&& 31)) (N := 7) (by omega) (by omega)
    have ew1 : smF (xx >>> (3 &&& 31)) 7 = nI w1 := ew1
    rw [ew1]
    have hz1 := sz_le w1
    obtain ⟨fs1, hA1⟩ := hB.at
    refine k_Vo hc [.int (nI w1)] cw_sbn (ci := 8) rfl dL_changes_471 (c_J4_appendI l hlf g M _ a (0 + b0.length) hB w1 hw1 (by omega)) hA1 hM hS hl.1 rfl rfl ⟨by omega, by omega⟩ ⟨by omega, by omega⟩ (Nat.le_of_ble_eq_true rfl) (fun v M1 H locs hs hM hS => ?_)
    obtain ⟨hv, hB⟩ := hs
    subst hv
    refine k_ldcw hc (k_str hc 36 rfl) dL_changes_474 ?_
    obtain ⟨b2, hi2, hb2, hq2, hbt2⟩ := sb_bt 36 (by omega) (by omega)
    clear hq2
    obtain ⟨fs2, hA2⟩ := hB.at
    refine k_Vo hc [.ref (g.2.2.2.1 36)] cw_sbs (ci := 8) rfl dL_changes_477 (c_J4_appendS l hlf g M _ a (0 + b0.length + szD w1) hB 36 b2 hi2 hbt2 (by omega)) hA2 hM hS hl.1 rfl rfl ⟨by omega, by omega⟩ ⟨by omega, by omega⟩ (Nat.le_of_ble_eq_true rfl) (fun v M1 H locs hs hM hS => ?_)
    obtain ⟨hv, hB⟩ := hs
    subst hv
    refine lv_iload_n hx hb dL_changes_480 rfl (lv_at hl 4 rfl) ?_
    refine lv_iconst (v := 5) hx hb dL_changes_481 (by decide) ?_
    refine lv_ishr hx hb dL_changes_482 ?_
    refine lv_bipush (v := 7) hx hb dL_changes_483 (by decide) ?_
    refine k_S1 hc [.int (xx >>> (5 &&& 31)), .int 7] cw_L_169 dL_changes_485 (c_L_some l hlf g _ (xx >>> (5 &&& 31)) 7 (by decide)) hM hS hl.1 rfl rfl ⟨by omega, by omega⟩ ⟨by omega, by omega⟩ (Nat.le_of_ble_eq_true rfl) (fun H locs hM hS => ?_)
    obtain ⟨w3, hw3, ew3⟩ := sm_w (xx >>> (5 &&& 31)) (N := 7) (by omega) (by omega)
    have ew3 : smF (xx >>> (5 &&& 31)) 7 = nI w3 := ew3
    rw [ew3]
    have hz3 := sz_le w3
    obtain ⟨fs3, hA3⟩ := hB.at
    refine k_Vo hc [.int (nI w3)] cw_sbn (ci := 8) rfl dL_changes_488 (c_J4_appendI l hlf g M _ a (0 + b0.length + szD w1 + b2.length) hB w3 hw3 (by omega)) hA3 hM hS hl.1 rfl rfl ⟨by omega, by omega⟩ ⟨by omega, by omega⟩ (Nat.le_of_ble_eq_true rfl) (fun v M1 H locs hs hM hS => ?_)
    obtain ⟨hv, hB⟩ := hs
    subst hv
    refine k_ldcw hc (k_str hc 37 rfl) dL_changes_491 ?_
    obtain ⟨b4, hi4, hb4, hq4, hbt4⟩ := sb_bt 37 (by omega) (by omega)
    have hb4 := hq4 (by omega) (by omega)
    clear hq4
    obtain ⟨fs4, hA4⟩ := hB.at
    refine k_Vo hc [.ref (g.2.2.2.1 37)] cw_sbs (ci := 8) rfl dL_changes_494 (c_J4_appendS l hlf g M _ a (0 + b0.length + szD w1 + b2.length + szD w3) hB 37 b4 hi4 hbt4 (by omega)) hA4 hM hS hl.1 rfl rfl ⟨by omega, by omega⟩ ⟨by omega, by omega⟩ (Nat.le_of_ble_eq_true rfl) (fun v M1 H locs hs hM hS => ?_)
    obtain ⟨hv, hB⟩ := hs
    subst hv
    refine lv_iload_n hx hb dL_changes_497 rfl (lv_at hl 4 rfl) ?_
    refine lv_iconst (v := 4) hx hb dL_changes_498 (by decide) ?_
    refine lv_ishr hx hb dL_changes_499 ?_
    refine lv_iconst (v := 4) hx hb dL_changes_500 (by decide) ?_
    refine k_S1 hc [.int (xx >>> (4 &&& 31)), .int 4] cw_L_169 dL_changes_501 (c_L_some l hlf g _ (xx >>> (4 &&& 31)) 4 (by decide)) hM hS hl.1 rfl rfl ⟨by omega, by omega⟩ ⟨by omega, by omega⟩ (Nat.le_of_ble_eq_true rfl) (fun H locs hM hS => ?_)
    obtain ⟨w5, hw5, ew5⟩ := sm_w (xx >>> (4 &&& 31)) (N := 4) (by omega) (by omega)
    have ew5 : smF (xx >>> (4 &&& 31)) 4 = nI w5 := ew5
    rw [ew5]
    have hz5 := sz_le w5
    obtain ⟨fs5, hA5⟩ := hB.at
    refine k_Vo hc [.int (nI w5)] cw_sbn (ci := 8) rfl dL_changes_504 (c_J4_appendI l hlf g M _ a (0 + b0.length + szD w1 + b2.length + szD w3 + b4.length) hB w5 hw5 (by omega)) hA5 hM hS hl.1 rfl rfl ⟨by omega, by omega⟩ ⟨by omega, by omega⟩ (Nat.le_of_ble_eq_true rfl) (fun v M1 H locs hs hM hS => ?_)
    obtain ⟨hv, hB⟩ := hs
    subst hv
    refine k_ldcw hc (k_str hc 38 rfl) dL_changes_507 ?_
    obtain ⟨b6, hi6, hb6, hq6, hbt6⟩ := sb_bt 38 (by omega) (by omega)
    have hb6 := hq6 (by omega) (by omega)
    clear hq6
    obtain ⟨fs6, hA6⟩ := hB.at
    refine k_Vo hc [.ref (g.2.2.2.1 38)] cw_sbs (ci := 8) rfl dL_changes_510 (c_J4_appendS l hlf g M _ a (0 + b0.length + szD w1 + b2.length + szD w3 + b4.length + szD w5) hB 38 b6 hi6 hbt6 (by omega)) hA6 hM hS hl.1 rfl rfl ⟨by omega, by omega⟩ ⟨by omega, by omega⟩ (Nat.le_of_ble_eq_true rfl) (fun v M1 H locs hs hM hS => ?_)
    obtain ⟨hv, hB⟩ := hs
    subst hv
    refine lv_iload_n hx hb dL_changes_513 rfl (lv_at hl 4 rfl) ?_
    refine lv_bipush (v := 7) hx hb dL_changes_514 (by decide) ?_
    refine lv_ishr hx hb dL_changes_516 ?_
    refine lv_iconst (v := 3) hx hb dL_changes_517 (by decide) ?_
    refine k_S1 hc [.int (xx >>> (7 &&& 31)), .int 3] cw_L_169 dL_changes_518 (c_L_some l hlf g _ (xx >>> (7 &&& 31)) 3 (by decide)) hM hS hl.1 rfl rfl ⟨by omega, by omega⟩ ⟨by omega, by omega⟩ (Nat.le_of_ble_eq_true rfl) (fun H locs hM hS => ?_)
    obtain ⟨w7, hw7, ew7⟩ := sm_w (xx >>> (7 &&& 31)) (N := 3) (by omega) (by omega)
    have ew7 : smF (xx >>> (7 &&& 31)) 3 = nI w7 := ew7
    rw [ew7]
    have hz7 := sz_le w7
    obtain ⟨fs7, hA7⟩ := hB.at
    refine k_Vo hc [.int (nI w7)] cw_sbn (ci := 8) rfl dL_changes_521 (c_J4_appendI l hlf g M _ a (0 + b0.length + szD w1 + b2.length + szD w3 + b4.length + szD w5 + b6.length) hB w7 hw7 (by omega)) hA7 hM hS hl.1 rfl rfl ⟨by omega, by omega⟩ ⟨by omega, by omega⟩ (Nat.le_of_ble_eq_true rfl) (fun v M1 H locs hs hM hS => ?_)
    obtain ⟨hv, hB⟩ := hs
    subst hv
    obtain ⟨fs8, hA8⟩ := hB.at
    refine k_Vo hc [] cw_sbt (ci := 8) rfl dL_changes_524 (c_J4_toString l hlf g M _ a (0 + b0.length + szD w1 + b2.length + szD w3 + b4.length + szD w5 + b6.length + szD w7) hB (by omega)) hA8 hM hS hl.1 rfl rfl ⟨by omega, by omega⟩ ⟨by omega, by omega⟩ (Nat.le_of_ble_eq_true rfl) (fun v M1 H locs hs hM hS => ?_)
    obtain ⟨b9, hv, hT⟩ := hs
    subst hv
    exact hend b9 (0 + b0.length + szD w1 + b2.length + szD w3 + b4.length + szD w5 + b6.length + szD w7) _ _ _ _ _ hT (by omega) (by omega) (by omega) hM hS
  · skip
    refine k_newX hc (T := TJ4) (ci := 8) in_J4 tyJ4 tyJ4_ok rfl ql_L_249 qm_StringBuilder qn_StringBuilder (fs := [.null, .int 0, .int 0, .int 0]) (fun j hj => ?_) dL_changes_404 hM hS (by omega) (by omega) (fun a H hno hM hS => ?_)
    · match j, hj with
      | 0, _ => rfl
      | 1, _ => rfl
      | 2, _ => rfl
      | 3, _ => rfl
    have h0 : ∀ q e9, M q = some e9 → upM M a (.inr (8, [.null, .int 0, .int 0, .int 0])) q = some e9 ∧ q ≠ a := fun q e9 hq => by
      have hqa : q ≠ a := fun h => by rw [h, hno] at hq; cases hq
      exact ⟨(upM_ne hqa).trans hq, hqa⟩
    refine lv_dup hx hb dL_changes_407 rfl ?_
    refine k_goIo hc [] cw_sbi dL_changes_408 (c_J4_init l hlf g M _ a h0 upM_at) hM hS hl.1 rfl rfl ⟨by omega, by omega⟩ ⟨by omega, by omega⟩ (Nat.le_of_ble_eq_true rfl) (fun v M1 H locs hs hM hS => ?_)
    obtain ⟨hv, hB⟩ := hs
    subst hv
    refine va_ldcS hx hb hc.2.2.2.1 (k_str hc 33 rfl) dL_changes_411 ?_
    obtain ⟨b0, hi0, hb0, hq0, hbt0⟩ := sb_bt 33 (by omega) (by omega)
    have hb0 := hq0 (by omega) (by omega)
    clear hq0
    obtain ⟨fs0, hA0⟩ := hB.at
    refine k_Vo hc [.ref (g.2.2.2.1 33)] cw_sbs (ci := 8) rfl dL_changes_413 (c_J4_appendS l hlf g M _ a (0) hB 33 b0 hi0 hbt0 (by omega)) hA0 hM hS hl.1 rfl rfl ⟨by omega, by omega⟩ ⟨by omega, by omega⟩ (Nat.le_of_ble_eq_true rfl) (fun v M1 H locs hs hM hS => ?_)
    obtain ⟨hv, hB⟩ := hs
    subst hv
    refine lv_iload_n hx hb dL_changes_416 rfl (lv_at hl 4 rfl) ?_
    refine lv_iconst (v := 3) hx hb dL_changes_417 (by decide) ?_
    refine lv_ishr hx hb dL_changes_418 ?_
    refine lv_bipush (v := 12) hx hb dL_changes_419 (by decide) ?_
    refine k_S1 hc [.int (xx >>> (3 &&& 31)), .int 12] cw_L_169 dL_changes_421 (c_L_some l hlf g _ (xx >>> (3 &&& 31)) 12 (by decide)) hM hS hl.1 rfl rfl ⟨by omega, by omega⟩ ⟨by omega, by omega⟩ (Nat.le_of_ble_eq_true rfl) (fun H locs hM hS => ?_)
    obtain ⟨w1, hw1, ew1⟩ := sm_w (xx >>> (3 &&& 31)) (N := 12) (by omega) (by omega)
    have ew1 : smF (xx >>> (3 &&& 31)) 12 = nI w1 := ew1
    rw [ew1]
    have hz1 := sz_le w1
    obtain ⟨fs1, hA1⟩ := hB.at
    refine k_Vo hc [.int (nI w1)] cw_sbn (ci := 8) rfl dL_changes_424 (c_J4_appendI l hlf g M _ a (0 + b0.length) hB w1 hw1 (by omega)) hA1 hM hS hl.1 rfl rfl ⟨by omega, by omega⟩ ⟨by omega, by omega⟩ (Nat.le_of_ble_eq_true rfl) (fun v M1 H locs hs hM hS => ?_)
    obtain ⟨hv, hB⟩ := hs
    subst hv
    refine k_ldcw hc (k_str hc 34 rfl) dL_changes_427 ?_
    obtain ⟨b2, hi2, hb2, hq2, hbt2⟩ := sb_bt 34 (by omega) (by omega)
    clear hq2
    obtain ⟨fs2, hA2⟩ := hB.at
    refine k_Vo hc [.ref (g.2.2.2.1 34)] cw_sbs (ci := 8) rfl dL_changes_430 (c_J4_appendS l hlf g M _ a (0 + b0.length + szD w1) hB 34 b2 hi2 hbt2 (by omega)) hA2 hM hS hl.1 rfl rfl ⟨by omega, by omega⟩ ⟨by omega, by omega⟩ (Nat.le_of_ble_eq_true rfl) (fun v M1 H locs hs hM hS => ?_)
    obtain ⟨hv, hB⟩ := hs
    subst hv
    refine lv_iload_n hx hb dL_changes_433 rfl (lv_at hl 4 rfl) ?_
    refine lv_iconst (v := 5) hx hb dL_changes_434 (by decide) ?_
    refine lv_ishr hx hb dL_changes_435 ?_
    refine lv_bipush (v := 100) hx hb dL_changes_436 (by decide) ?_
    refine k_S1 hc [.int (xx >>> (5 &&& 31)), .int 100] cw_L_169 dL_changes_438 (c_L_some l hlf g _ (xx >>> (5 &&& 31)) 100 (by decide)) hM hS hl.1 rfl rfl ⟨by omega, by omega⟩ ⟨by omega, by omega⟩ (Nat.le_of_ble_eq_true rfl) (fun H locs hM hS => ?_)
    obtain ⟨w3, hw3, ew3⟩ := sm_w (xx >>> (5 &&& 31)) (N := 100) (by omega) (by omega)
    have ew3 : smF (xx >>> (5 &&& 31)) 100 = nI w3 := ew3
    rw [ew3]
    have hz3 := sz_le w3
    obtain ⟨fs3, hA3⟩ := hB.at
    refine k_Vo hc [.int (nI w3)] cw_sbn (ci := 8) rfl dL_changes_441 (c_J4_appendI l hlf g M _ a (0 + b0.length + szD w1 + b2.length) hB w3 hw3 (by omega)) hA3 hM hS hl.1 rfl rfl ⟨by omega, by omega⟩ ⟨by omega, by omega⟩ (Nat.le_of_ble_eq_true rfl) (fun v M1 H locs hs hM hS => ?_)
    obtain ⟨hv, hB⟩ := hs
    subst hv
    obtain ⟨fs4, hA4⟩ := hB.at
    refine k_Vo hc [] cw_sbt (ci := 8) rfl dL_changes_444 (c_J4_toString l hlf g M _ a (0 + b0.length + szD w1 + b2.length + szD w3) hB (by omega)) hA4 hM hS hl.1 rfl rfl ⟨by omega, by omega⟩ ⟨by omega, by omega⟩ (Nat.le_of_ble_eq_true rfl) (fun v M1 H locs hs hM hS => ?_)
    obtain ⟨b9, hv, hT⟩ := hs
    subst hv
    refine lv_goto (tgt := 527) hx hb dL_changes_447 (by decide) ?_
    exact hend b9 (0 + b0.length + szD w1 + b2.length + szD w3) _ _ _ _ _ hT (by omega) (by omega) (by omega) hM hS
end CHG
set_option maxHeartbeats 4000000 in
set_option maxRecDepth 100000 in
theorem c_L_changes (l : Launch) (hlf : l.stackTraces = false) (g : GC) (M : HM) (x : Nat) (cs : CS) (xx : Int32) {n nx sz : Nat} (hW : ClsAt g M x cs) (hG : GI n (cs 0)) (hn : n + 48 * 61 < 2 ^ 30) (hA : Aux cs) (hR9 : Rg nx sz cs) : KMv g l yL_changes cL_changes 5 (some .boolean) 13 100 600 [.ref x, .int xx] M (ChS g M x cs n nx sz) := by
  refine k_methv hlf (by decide) (Nat.le_of_ble_eq_true rfl) fun p e s m below meth c ls hc hr hnx9 hM hS hl => ?_
  have hc : Cx g p l s m [.ref x, .int xx].toArray meth c cL_changes 5 RL := hc
  have hx := hc.1
  have hb := hc.2.1
  have hl : lv_has ls 5 [(0, .ref x), (1, .int xx)] := hl
  have hG0 := hG
  obtain ⟨ns, np, nh, nc, t9, dh, cu, ht9, hF⟩ := hG
  have bF := hF.1
  refine lv_iload_n hx hb dL_changes_0 rfl (lv_at hl 1 rfl) ?_
  refine lv_iconst (v := 4) hx hb dL_changes_1 (by decide) ?_
  refine lv_ishr hx hb dL_changes_2 ?_
  refine lv_aload_n hx hb dL_changes_3 rfl (lv_at hl 0 rfl) ?_
  refine lv_iconst (v := 4) hx hb dL_changes_4 (by decide) ?_
  have k1 := h_account l hlf g M x cs 4 hW
  rw [show v_account cs 4 = (nI ns) from ac_4 hF] at k1
  refine k_SX1 hc [.ref x, .int 4] cw_L_205 dL_changes_5 k1 hM hS hl.1 rfl rfl ⟨Nat.le_of_ble_eq_true rfl, Nat.le_of_ble_eq_true rfl⟩ ⟨Nat.le_of_ble_eq_true rfl, Nat.le_of_ble_eq_true rfl⟩ (Nat.le_of_ble_eq_true rfl) (fun H locs hM hS => ?_)
  refine lv_iconst (v := 1) hx hb dL_changes_8 (by decide) ?_
  refine lv_iadd hx hb dL_changes_9 ?_
  refine k_S1 hc [.int (xx >>> (4 &&& 31)), .int ((nI ns) + 1)] cw_L_169 dL_changes_10 (c_L_some l hlf g _ (xx >>> (4 &&& 31)) ((nI ns) + 1) (nz_1 _ (by omega))) hM hS hl.1 rfl rfl ⟨Nat.le_of_ble_eq_true rfl, Nat.le_of_ble_eq_true rfl⟩ ⟨Nat.le_of_ble_eq_true rfl, Nat.le_of_ble_eq_true rfl⟩ (Nat.le_of_ble_eq_true rfl) (fun H locs hM hS => ?_)
  refine lv_istore_n (lv' := [(2, .int (smF (xx >>> (4 &&& 31)) ((nI ns) + 1))), (0, .ref x), (1, .int xx)]) hx hb dL_changes_13 rfl hl (by decide) rfl (fun ls hl => ?_)
  refine lv_iload_n hx hb dL_changes_14 rfl (lv_at hl 2 rfl) ?_
  refine lv_bipush (v := 9) hx hb dL_changes_15 (by decide) ?_
  refine lv_ishr hx hb dL_changes_17 ?_
  refine lv_aload_n hx hb dL_changes_18 rfl (lv_at hl 1 rfl) ?_
  refine lv_bipush (v := 6) hx hb dL_changes_19 (by decide) ?_
  have k2 := h_account l hlf g M x cs 6 hW
  rw [show v_account cs 6 = (nI nh) from ac_6 hF] at k2
  refine k_SX1 hc [.ref x, .int 6] cw_L_205 dL_changes_21 k2 hM hS hl.1 rfl rfl ⟨Nat.le_of_ble_eq_true rfl, Nat.le_of_ble_eq_true rfl⟩ ⟨Nat.le_of_ble_eq_true rfl, Nat.le_of_ble_eq_true rfl⟩ (Nat.le_of_ble_eq_true rfl) (fun H locs hM hS => ?_)
  refine lv_iconst (v := 1) hx hb dL_changes_24 (by decide) ?_
  refine lv_iadd hx hb dL_changes_25 ?_
  refine k_S1 hc [.int (xx >>> (9 &&& 31)), .int ((nI nh) + 1)] cw_L_169 dL_changes_26 (c_L_some l hlf g _ (xx >>> (9 &&& 31)) ((nI nh) + 1) (nz_1 _ (by omega))) hM hS hl.1 rfl rfl ⟨Nat.le_of_ble_eq_true rfl, Nat.le_of_ble_eq_true rfl⟩ ⟨Nat.le_of_ble_eq_true rfl, Nat.le_of_ble_eq_true rfl⟩ (Nat.le_of_ble_eq_true rfl) (fun H locs hM hS => ?_)
  refine lv_istore_n (lv' := [(3, .int (smF (xx >>> (9 &&& 31)) ((nI nh) + 1))), (2, .int (smF (xx >>> (4 &&& 31)) ((nI ns) + 1))), (0, .ref x), (1, .int xx)]) hx hb dL_changes_29 rfl hl (by decide) rfl (fun ls hl => ?_)
  refine lv_iload_n hx hb dL_changes_30 rfl (lv_at hl 3 rfl) ?_
  refine lv_iconst (v := 5) hx hb dL_changes_31 (by decide) ?_
  refine lv_ishr hx hb dL_changes_32 ?_
  refine lv_aload_n hx hb dL_changes_33 rfl (lv_at hl 2 rfl) ?_
  refine lv_bipush (v := 8) hx hb dL_changes_34 (by decide) ?_
  have k3 := h_account l hlf g M x cs 8 hW
  rw [show v_account cs 8 = (nI nc) from ac_8 hF] at k3
  refine k_SX1 hc [.ref x, .int 8] cw_L_205 dL_changes_36 k3 hM hS hl.1 rfl rfl ⟨Nat.le_of_ble_eq_true rfl, Nat.le_of_ble_eq_true rfl⟩ ⟨Nat.le_of_ble_eq_true rfl, Nat.le_of_ble_eq_true rfl⟩ (Nat.le_of_ble_eq_true rfl) (fun H locs hM hS => ?_)
  refine lv_iconst (v := 1) hx hb dL_changes_39 (by decide) ?_
  refine lv_iadd hx hb dL_changes_40 ?_
  refine k_S1 hc [.int (xx >>> (5 &&& 31)), .int ((nI nc) + 1)] cw_L_169 dL_changes_41 (c_L_some l hlf g _ (xx >>> (5 &&& 31)) ((nI nc) + 1) (nz_1 _ (by omega))) hM hS hl.1 rfl rfl ⟨Nat.le_of_ble_eq_true rfl, Nat.le_of_ble_eq_true rfl⟩ ⟨Nat.le_of_ble_eq_true rfl, Nat.le_of_ble_eq_true rfl⟩ (Nat.le_of_ble_eq_true rfl) (fun H locs hM hS => ?_)
  refine lv_istore (lv' := [(4, .int (smF (xx >>> (5 &&& 31)) ((nI nc) + 1))), (3, .int (smF (xx >>> (9 &&& 31)) ((nI nh) + 1))), (2, .int (smF (xx >>> (4 &&& 31)) ((nI ns) + 1))), (0, .ref x), (1, .int xx)]) hx hb dL_changes_44 hl (by decide) rfl (fun ls hl => ?_)
  refine lv_iload_n hx hb dL_changes_46 rfl (lv_at hl 4 rfl) ?_
  refine lv_bipush (v := 18) hx hb dL_changes_47 (by decide) ?_
  refine k_S1 hc [.int xx, .int 18] cw_L_169 dL_changes_49 (c_L_some l hlf g _ xx 18 (by decide)) hM hS hl.1 rfl rfl ⟨Nat.le_of_ble_eq_true rfl, Nat.le_of_ble_eq_true rfl⟩ ⟨Nat.le_of_ble_eq_true rfl, Nat.le_of_ble_eq_true rfl⟩ (Nat.le_of_ble_eq_true rfl) (fun H locs hM hS => ?_)
  obtain ⟨j, hj, ej⟩ := smF_b xx (N := 18) (by omega) (by omega)
  have ej : smF xx 18 = nI j := ej
  rw [ej]
  clear ej
  have hl := lv_sub hl [0, 1, 2, 3, 4] (by rfl : _ = [(4, .int (smF (xx >>> (5 &&& 31)) ((nI nc) + 1))), (3, .int (smF (xx >>> (9 &&& 31)) ((nI nh) + 1))), (2, .int (smF (xx >>> (4 &&& 31)) ((nI ns) + 1))), (0, .ref x), (1, .int xx)])
  have hfr : 13 ≤ (rmOf 13 100 600).frames := (Nat.le_of_ble_eq_true rfl)
  have hlo : 780 ≤ (rmOf 13 100 600).locals := (Nat.le_of_ble_eq_true rfl)
  have hRc : 100 ≤ (rmOf 13 100 600).cells := (Nat.le_of_ble_eq_true rfl)
  have hRs : 600 ≤ (rmOf 13 100 600).slots := (Nat.le_of_ble_eq_true rfl)
  have hj18 : j = 0 ∨ j = 1 ∨ j = 2 ∨ j = 3 ∨ j = 4 ∨ j = 5 ∨ j = 6 ∨ j = 7 ∨ j = 8 ∨ j = 9 ∨ j = 10 ∨ j = 11 ∨ j = 12 ∨ j = 13 ∨ j = 14 ∨ j = 15 ∨ j = 16 ∨ j = 17 := by omega
  rcases hj18 with rfl | rfl | rfl | rfl | rfl | rfl | rfl | rfl | rfl | rfl | rfl | rfl | rfl | rfl | rfl | rfl | rfl | rfl
  · refine lv_tableIn (tgt := 136) hx hb dL_changes_52 (by decide) (by decide) (by rfl) (by decide) ?_
    exact ch_136 hc hlf hr hfr hlo (Nat.le_of_ble_eq_true rfl) (Nat.le_of_ble_eq_true rfl) hRc hRs hW hG0 hn hA hR9 hM hS hl
  · refine lv_tableIn (tgt := 157) hx hb dL_changes_52 (by decide) (by decide) (by rfl) (by decide) ?_
    exact ch_157 hc hlf hr hfr hlo (Nat.le_of_ble_eq_true rfl) (Nat.le_of_ble_eq_true rfl) hRc hRs hW hG0 hn hA hR9 hM hS hl
  · refine lv_tableIn (tgt := 187) hx hb dL_changes_52 (by decide) (by decide) (by rfl) (by decide) ?_
    exact ch_187 hc hlf hr hfr hlo (Nat.le_of_ble_eq_true rfl) (Nat.le_of_ble_eq_true rfl) hRc hRs hW hG0 hn hA hR9 hM hS hl
  · refine lv_tableIn (tgt := 200) hx hb dL_changes_52 (by decide) (by decide) (by rfl) (by decide) ?_
    exact ch_200 hc hlf hr hfr hlo (Nat.le_of_ble_eq_true rfl) (Nat.le_of_ble_eq_true rfl) hRc hRs hW hG0 hn hA hR9 hM hS hl
  · refine lv_tableIn (tgt := 221) hx hb dL_changes_52 (by decide) (by decide) (by rfl) (by decide) ?_
    exact ch_221 hc hlf hr hfr hlo (Nat.le_of_ble_eq_true rfl) (Nat.le_of_ble_eq_true rfl) hRc hRs hW hG0 hn hA hR9 hM hS hl
  · refine lv_tableIn (tgt := 221) hx hb dL_changes_52 (by decide) (by decide) (by rfl) (by decide) ?_
    exact ch_221 hc hlf hr hfr hlo (Nat.le_of_ble_eq_true rfl) (Nat.le_of_ble_eq_true rfl) hRc hRs hW hG0 hn hA hR9 hM hS hl
  · refine lv_tableIn (tgt := 221) hx hb dL_changes_52 (by decide) (by decide) (by rfl) (by decide) ?_
    exact ch_221 hc hlf hr hfr hlo (Nat.le_of_ble_eq_true rfl) (Nat.le_of_ble_eq_true rfl) hRc hRs hW hG0 hn hA hR9 hM hS hl
  · refine lv_tableIn (tgt := 250) hx hb dL_changes_52 (by decide) (by decide) (by rfl) (by decide) ?_
    exact ch_250 hc hlf hr hfr hlo (Nat.le_of_ble_eq_true rfl) (Nat.le_of_ble_eq_true rfl) hRc hRs hW hG0 hn hA hR9 hM hS hl
  · refine lv_tableIn (tgt := 265) hx hb dL_changes_52 (by decide) (by decide) (by rfl) (by decide) ?_
    exact ch_265 hc hlf hr hfr hlo (Nat.le_of_ble_eq_true rfl) (Nat.le_of_ble_eq_true rfl) hRc hRs hW hG0 hn hA hR9 hM hS hl
  · refine lv_tableIn (tgt := 286) hx hb dL_changes_52 (by decide) (by decide) (by rfl) (by decide) ?_
    exact ch_286 hc hlf hr hfr hlo (Nat.le_of_ble_eq_true rfl) (Nat.le_of_ble_eq_true rfl) hRc hRs hW hG0 hn hA hR9 hM hS hl
  · refine lv_tableIn (tgt := 286) hx hb dL_changes_52 (by decide) (by decide) (by rfl) (by decide) ?_
    exact ch_286 hc hlf hr hfr hlo (Nat.le_of_ble_eq_true rfl) (Nat.le_of_ble_eq_true rfl) hRc hRs hW hG0 hn hA hR9 hM hS hl
  · refine lv_tableIn (tgt := 307) hx hb dL_changes_52 (by decide) (by decide) (by rfl) (by decide) ?_
    exact ch_307 hc hlf hr hfr hlo (Nat.le_of_ble_eq_true rfl) (Nat.le_of_ble_eq_true rfl) hRc hRs hW hG0 hn hA hR9 hM hS hl
  · refine lv_tableIn (tgt := 322) hx hb dL_changes_52 (by decide) (by decide) (by rfl) (by decide) ?_
    exact ch_322 hc hlf hr hfr hlo (Nat.le_of_ble_eq_true rfl) (Nat.le_of_ble_eq_true rfl) hRc hRs hW hG0 hn hA hR9 hM hS hl
  · refine lv_tableIn (tgt := 337) hx hb dL_changes_52 (by decide) (by decide) (by rfl) (by decide) ?_
    exact ch_337 hc hlf hr hfr hlo (Nat.le_of_ble_eq_true rfl) (Nat.le_of_ble_eq_true rfl) hRc hRs hW hG0 hn hA hR9 hM hS hl
  · refine lv_tableIn (tgt := 352) hx hb dL_changes_52 (by decide) (by decide) (by rfl) (by decide) ?_
    exact ch_352 hc hlf hr hfr hlo (Nat.le_of_ble_eq_true rfl) (Nat.le_of_ble_eq_true rfl) hRc hRs hW hG0 hn hA hR9 hM hS hl
  · refine lv_tableIn (tgt := 373) hx hb dL_changes_52 (by decide) (by decide) (by rfl) (by decide) ?_
    exact ch_373 hc hlf hr hfr hlo (Nat.le_of_ble_eq_true rfl) (Nat.le_of_ble_eq_true rfl) hRc hRs hW hG0 hn hA hR9 hM hS hl
  · refine lv_tableIn (tgt := 373) hx hb dL_changes_52 (by decide) (by decide) (by rfl) (by decide) ?_
    exact ch_373 hc hlf hr hfr hlo (Nat.le_of_ble_eq_true rfl) (Nat.le_of_ble_eq_true rfl) hRc hRs hW hG0 hn hA hR9 hM hS hl
  · refine lv_tableOut (tgt := 394) hx hb dL_changes_52 (by decide) (by decide) ?_
    exact ch_394 hc hlf hr hfr hlo (Nat.le_of_ble_eq_true rfl) (Nat.le_of_ble_eq_true rfl) hRc hRs hW hG0 hn hA hR9 hM hS hl
