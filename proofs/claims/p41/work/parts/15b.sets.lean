/-! a field of an object set, by its place -/
theorem ob_s7 {x : Nat} {cs : CS} {v : Int32} : (obO x cs).set 6 (.int v) = obO x (upS cs 7 v) := rfl
theorem ob_s8 {x : Nat} {cs : CS} {v : Int32} : (obO x cs).set 7 (.int v) = obO x (upS cs 8 v) := rfl
theorem ob_s9 {x : Nat} {cs : CS} {v : Int32} : (obO x cs).set 8 (.int v) = obO x (upS cs 9 v) := rfl
theorem ob_s10 {x : Nat} {cs : CS} {v : Int32} : (obO x cs).set 9 (.int v) = obO x (upS cs 10 v) := rfl
theorem ob_s11 {x : Nat} {cs : CS} {v : Int32} : (obO x cs).set 10 (.int v) = obO x (upS cs 11 v) := rfl
theorem ob_s12 {x : Nat} {cs : CS} {v : Int32} : (obO x cs).set 11 (.int v) = obO x (upS cs 12 v) := rfl
theorem hi_s5 {x : Nat} {cs : CS} {v : Int32} : (hiO x cs).set 1 (.int v) = hiO x (upS cs 5 v) := rfl
theorem hi_s6 {x : Nat} {cs : CS} {v : Int32} : (hiO x cs).set 2 (.int v) = hiO x (upS cs 6 v) := rfl
theorem te_s1 {x : Nat} {cs : CS} {v : Int32} : (teO x cs).set 2 (.int v) = teO x (upS cs 1 v) := rfl
theorem te_s2 {x : Nat} {cs : CS} {v : Int32} : (teO x cs).set 3 (.int v) = teO x (upS cs 2 v) := rfl
theorem te_s3 {x : Nat} {cs : CS} {v : Int32} : (teO x cs).set 4 (.int v) = teO x (upS cs 3 v) := rfl
theorem li_s4 {x : Nat} {cs : CS} {v : Int32} : (liO x cs).set 1 (.int v) = liO x (upS cs 4 v) := rfl
theorem fl_s0 {a : Nat} {fl : FL} {v : Int32} : (flO a fl).set 8 (.int v) = flO a (up2 fl 9 0 v) := rfl
theorem fl_s1 {a : Nat} {fl : FL} {v : Int32} : (flO a fl).set 9 (.int v) = flO a (up2 fl 9 1 v) := rfl
theorem fl_s2 {a : Nat} {fl : FL} {v : Int32} : (flO a fl).set 10 (.int v) = flO a (up2 fl 9 2 v) := rfl
theorem fl_s3 {a : Nat} {fl : FL} {v : Int32} : (flO a fl).set 11 (.int v) = flO a (up2 fl 9 3 v) := rfl
theorem fl_s4 {a : Nat} {fl : FL} {v : Int32} : (flO a fl).set 12 (.int v) = flO a (up2 fl 9 4 v) := rfl
theorem md_s3 {m : Nat} {md : FL} {v : Int32} : (mdO m md).set 3 (.int v) = mdO m (up2 md 7 3 v) := rfl
theorem md_s5 {m : Nat} {md : FL} {v : Int32} : (mdO m md).set 5 (.int v) = mdO m (up2 md 7 5 v) := rfl
theorem md_s7 {m : Nat} {md : FL} {v : Int32} : (mdO m md).set 7 (.int v) = mdO m (up2 md 7 7 v) := rfl
theorem md_s9 {m : Nat} {md : FL} {v : Int32} : (mdO m md).set 9 (.int v) = mdO m (up2 md 7 9 v) := rfl
theorem md_s10 {m : Nat} {md : FL} {v : Int32} : (mdO m md).set 10 (.int v) = mdO m (up2 md 7 10 v) := rfl
theorem md_s11 {m : Nat} {md : FL} {v : Int32} : (mdO m md).set 11 (.int v) = mdO m (up2 md 7 11 v) := rfl
theorem md_s13 {m : Nat} {md : FL} {v : Int32} : (mdO m md).set 13 (.int v) = mdO m (up2 md 7 13 v) := rfl
theorem md_s14 {m : Nat} {md : FL} {v : Int32} : (mdO m md).set 14 (.int v) = mdO m (up2 md 7 14 v) := rfl
theorem md_s15 {m : Nat} {md : FL} {v : Int32} : (mdO m md).set 15 (.int v) = mdO m (up2 md 7 15 v) := rfl
theorem md_s16 {m : Nat} {md : FL} {v : Int32} : (mdO m md).set 16 (.int v) = mdO m (up2 md 7 16 v) := rfl
theorem md_s17 {m : Nat} {md : FL} {v : Int32} : (mdO m md).set 17 (.int v) = mdO m (up2 md 7 17 v) := rfl
theorem md_s18 {m : Nat} {md : FL} {v : Int32} : (mdO m md).set 18 (.int v) = mdO m (up2 md 7 18 v) := rfl
theorem md_s19 {m : Nat} {md : FL} {v : Int32} : (mdO m md).set 19 (.int v) = mdO m (up2 md 7 19 v) := rfl
theorem tab_ne {x c : Int32} {lo : Int} {k : Nat} (h : ¬ x = c) (hc : c.toInt = lo + (k : Int)) (h1 : ¬ x.toInt < lo) : (x.toInt - lo).toNat ≠ k := by
  intro e
  apply h
  apply Int32.toInt_inj.mp
  omega
theorem tab_lt {x : Int32} {lo hi : Int} {n : Nat} (h1 : ¬ x.toInt < lo) (h2 : ¬ hi < x.toInt) (hn : hi < lo + (n : Int)) : (x.toInt - lo).toNat < n := by omega
theorem tx_0 : lw_tx[0]? = some (RX4, 72, "s1@1>1") := rfl
theorem tx_1 : lw_tx[1]? = some (RX4, 74, "e1/1") := rfl
theorem tx_2 : lw_tx[2]? = some (RX4, 76, "b2") := rfl
theorem tx_3 : lw_tx[3]? = some (RX4, 78, "t1") := rfl
theorem tx_4 : lw_tx[4]? = some (RX4, 80, "l1") := rfl
theorem tx_5 : lw_tx[5]? = some (RX4, 82, "d1") := rfl
theorem tx_6 : lw_tx[6]? = some (RX4, 84, "w2") := rfl
theorem tx_7 : lw_tx[7]? = some (RX4, 86, "") := rfl
theorem tx_8 : lw_tx[8]? = some (RX5, 286, "blank") := rfl
theorem tx_9 : lw_tx[9]? = some (RL, 286, "q") := rfl
theorem tx_10 : lw_tx[10]? = some (RX5, 346, "refused; reason tells why") := rfl
theorem tx_11 : lw_tx[11]? = some (RX5, 393, "there is no such stake") := rfl
theorem tx_12 : lw_tx[12]? = some (RX5, 395, "there is no such post") := rfl
theorem tx_13 : lw_tx[13]? = some (RX5, 399, "there is no such camel") := rfl
theorem tx_14 : lw_tx[14]? = some (RX5, 155, "no such number of a camel") := rfl
theorem tx_15 : lw_tx[15]? = some (RX5, 397, "there is no such sheet") := rfl
theorem tx_16 : lw_tx[16]? = some (RX5, 168, "the stake is not drawn there") := rfl
theorem tx_17 : lw_tx[17]? = some (RX5, 195, "the stake shimmers from every post") := rfl
theorem tx_18 : lw_tx[18]? = some (RX5, 200, "the stake shimmers all day") := rfl
theorem tx_19 : lw_tx[19]? = some (RX5, 202, "the hours are out of range") := rfl
theorem tx_20 : lw_tx[20]? = some (RX5, 213, "the camel is not lost so soon") := rfl
theorem tx_21 : lw_tx[21]? = some (RX5, 218, "there is no such place") := rfl
theorem tx_22 : lw_tx[22]? = some (RX5, 223, "there are no camels") := rfl
theorem tx_23 : lw_tx[23]? = some (RX5, 231, "the text buffer is full") := rfl
theorem tx_24 : lw_tx[24]? = some (RX5, 247, "the text has a fault") := rfl
theorem tx_25 : lw_tx[25]? = some (RX5, 274, "no such number of a reason") := rfl
theorem tx_26 : lw_tx[26]? = some (RX5, 276, "nothing was refused") := rfl
theorem tx_27 : lw_tx[27]? = some (RX5, 293, "the line has no such index") := rfl
theorem tx_28 : lw_tx[28]? = some (RX5, 310, "nothing is drawn") := rfl
theorem tx_29 : lw_tx[29]? = some (RX5, 332, "no such account") := rfl
theorem tx_30 : lw_tx[30]? = some (RX5, 334, "nothing can be undone") := rfl
theorem tx_31 : lw_tx[31]? = some (RX5, 339, "nothing was saved") := rfl
theorem tab_df {x : Int32} {lo hi dflt : Int} {offs : Array Int} {n : Nat} {exc : List Nat} (hd : (List.range n).all (fun k => exc.contains k || decide (offs[k]? = some dflt)) = true) (h1 : ¬ x.toInt < lo) (h2 : ¬ hi < x.toInt) (hn : hi < lo + (n : Int)) (hx : ∀ k ∈ exc, (x.toInt - lo).toNat ≠ k) : offs[(x.toInt - lo).toNat]? = some dflt := by
  have h := List.all_eq_true.mp hd (x.toInt - lo).toNat (List.mem_range.mpr (tab_lt h1 h2 hn))
  simp only [Bool.or_eq_true, decide_eq_true_eq, List.contains_iff_mem] at h
  rcases h with h | h
  · exact absurd rfl (hx _ h)
  · exact h
theorem exc_c {m k : Nat} {l : List Nat} (h : m ≠ k) (t : ∀ j ∈ l, m ≠ j) : ∀ j ∈ k :: l, m ≠ j := fun j hj => by
  rcases List.mem_cons.mp hj with rfl | hj
  · exact h
  · exact t j hj
theorem exc_n {m : Nat} : ∀ j ∈ ([] : List Nat), m ≠ j := fun _ h => absurd h List.not_mem_nil
theorem k_strN {g : GC} {p : Program} {l : Launch} {s : State} {m : MethodId} {args : Array Value} {meth : Method} {c : Code} {cc : ByteArray} {nL : Nat} {own : String} (hc : Cx g p l s m args meth c cc nL own) (i : Nat) {o t : String} {n : Nat} (hi : lw_tx[i]? = some (o, n, t)) : vk_R o n t (g.2.2.2.1 i) s := by
  have h := k_str hc i (x := (o, n, t)) hi
  exact h
