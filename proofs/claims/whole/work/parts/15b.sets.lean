/-! a field of an object set, by its place -/
theorem ob_s7 {x : Nat} {cs : CS} {v : Int32} : (obO x cs).set 6 (.int v) = obO x (upS cs 7 v) := rfl
theorem ob_s8 {x : Nat} {cs : CS} {v : Int32} : (obO x cs).set 7 (.int v) = obO x (upS cs 8 v) := rfl
theorem ob_s9 {x : Nat} {cs : CS} {v : Int32} : (obO x cs).set 8 (.int v) = obO x (upS cs 9 v) := rfl
theorem ob_s10 {x : Nat} {cs : CS} {v : Int32} : (obO x cs).set 9 (.int v) = obO x (upS cs 10 v) := rfl
theorem ob_s11 {x : Nat} {cs : CS} {v : Int32} : (obO x cs).set 10 (.int v) = obO x (upS cs 11 v) := rfl
theorem ob_s12 {x : Nat} {cs : CS} {v : Int32} : (obO x cs).set 11 (.int v) = obO x (upS cs 12 v) := rfl
theorem hi_s5 {x : Nat} {cs : CS} {v : Int32} : (hiO x cs).set 1 (.int v) = hiO x (upS cs 5 v) := rfl
theorem hi_s6 {x : Nat} {cs : CS} {v : Int32} : (hiO x cs).set 2 (.int v) = hiO x (upS cs 6 v) := rfl
theorem te_s1 {x : Nat} {cs : CS} {v : Int32} : (teO x cs).set 2 (.int v) = teO x (upS cs 1 v) := rfl
theorem te_s2 {x : Nat} {cs : CS} {v : Int32} : (teO x cs).set 3 (.int v) = teO x (upS cs 2 v) := rfl
theorem te_s3 {x : Nat} {cs : CS} {v : Int32} : (teO x cs).set 4 (.int v) = teO x (upS cs 3 v) := rfl
theorem li_s4 {x : Nat} {cs : CS} {v : Int32} : (liO x cs).set 1 (.int v) = liO x (upS cs 4 v) := rfl
theorem fl_s0 {a : Nat} {fl : FL} {v : Int32} : (flO a fl).set 8 (.int v) = flO a (up2 fl 9 0 v) := rfl
theorem fl_s1 {a : Nat} {fl : FL} {v : Int32} : (flO a fl).set 9 (.int v) = flO a (up2 fl 9 1 v) := rfl
theorem fl_s2 {a : Nat} {fl : FL} {v : Int32} : (flO a fl).set 10 (.int v) = flO a (up2 fl 9 2 v) := rfl
theorem fl_s3 {a : Nat} {fl : FL} {v : Int32} : (flO a fl).set 11 (.int v) = flO a (up2 fl 9 3 v) := rfl
theorem fl_s4 {a : Nat} {fl : FL} {v : Int32} : (flO a fl).set 12 (.int v) = flO a (up2 fl 9 4 v) := rfl
theorem md_s3 {m : Nat} {md : FL} {v : Int32} : (mdO m md).set 3 (.int v) = mdO m (up2 md 7 3 v) := rfl
theorem md_s5 {m : Nat} {md : FL} {v : Int32} : (mdO m md).set 5 (.int v) = mdO m (up2 md 7 5 v) := rfl
theorem md_s7 {m : Nat} {md : FL} {v : Int32} : (mdO m md).set 7 (.int v) = mdO m (up2 md 7 7 v) := rfl
theorem md_s9 {m : Nat} {md : FL} {v : Int32} : (mdO m md).set 9 (.int v) = mdO m (up2 md 7 9 v) := rfl
theorem md_s10 {m : Nat} {md : FL} {v : Int32} : (mdO m md).set 10 (.int v) = mdO m (up2 md 7 10 v) := rfl
theorem md_s11 {m : Nat} {md : FL} {v : Int32} : (mdO m md).set 11 (.int v) = mdO m (up2 md 7 11 v) := rfl
theorem md_s13 {m : Nat} {md : FL} {v : Int32} : (mdO m md).set 13 (.int v) = mdO m (up2 md 7 13 v) := rfl
theorem md_s14 {m : Nat} {md : FL} {v : Int32} : (mdO m md).set 14 (.int v) = mdO m (up2 md 7 14 v) := rfl
theorem md_s15 {m : Nat} {md : FL} {v : Int32} : (mdO m md).set 15 (.int v) = mdO m (up2 md 7 15 v) := rfl
theorem md_s16 {m : Nat} {md : FL} {v : Int32} : (mdO m md).set 16 (.int v) = mdO m (up2 md 7 16 v) := rfl
theorem md_s17 {m : Nat} {md : FL} {v : Int32} : (mdO m md).set 17 (.int v) = mdO m (up2 md 7 17 v) := rfl
theorem md_s18 {m : Nat} {md : FL} {v : Int32} : (mdO m md).set 18 (.int v) = mdO m (up2 md 7 18 v) := rfl
theorem md_s19 {m : Nat} {md : FL} {v : Int32} : (mdO m md).set 19 (.int v) = mdO m (up2 md 7 19 v) := rfl
